section
/-! the small machine: values, heap, one step -/
abbrev am_v : Type := Int ⊕ (Int ⊕ Nat)
abbrev am_g : Type := Nat × (Nat → Nat × Nat) × (Nat → Int → Nat)
abbrev am_h : Type := am_g × (Nat → Int → Int)
abbrev am_l : Type := List (Option am_v)
abbrev am_e : Type := Instr × Nat × Int × Nat × Nat × Nat × Nat × Nat × List (Int × Nat)
def w32 (x : Int) : Int := (x + 2147483648) % 4294967296 - 2147483648
def w64 (x : Int) : Int := (x + 9223372036854775808) % 18446744073709551616 - 9223372036854775808
def w8 (x : Int) : Int := (x + 128) % 256 - 128
def i_and (a b : Int) : Int := (Int32.ofInt a &&& Int32.ofInt b).toInt
def i_or (a b : Int) : Int := (Int32.ofInt a ||| Int32.ofInt b).toInt
def i_xor (a b : Int) : Int := (Int32.ofInt a ^^^ Int32.ofInt b).toInt
def i_shl (a b : Int) : Int := (Int32.ofInt a <<< (Int32.ofInt b &&& 31)).toInt
def i_shr (a b : Int) : Int := (Int32.ofInt a >>> (Int32.ofInt b &&& 31)).toInt
def i_ushr (a b : Int) : Int := (((Int32.ofInt a).toUInt32 >>> ((Int32.ofInt b).toUInt32 &&& Int32.toUInt32 31)).toInt32).toInt
def l_and (a b : Int) : Int := (Int64.ofInt a &&& Int64.ofInt b).toInt
def l_or (a b : Int) : Int := (Int64.ofInt a ||| Int64.ofInt b).toInt
def l_shl (a b : Int) : Int := (Int64.ofInt a <<< ((Int32.ofInt b).toInt64 &&& 63)).toInt
def l_ushr (a b : Int) : Int := (((Int64.ofInt a).toUInt64 >>> ((Int32.ofInt b).toInt64.toUInt64 &&& Int64.toUInt64 63)).toInt64).toInt
def l_cmp (a b : Int) : Int := if a < b then -1 else if a = b then 0 else 1
/-- a branch: only = and < are left -/
def am_br {α : Type} (c : ClassFile.Cond) (a b : Int) (t f : α) : α := match c with
  | .eq => if a = b then t else f
  | .ne => if a = b then f else t
  | .lt => if a < b then t else f
  | .ge => if a < b then f else t
  | .gt => if b < a then t else f
  | .le => if b < a then f else t
def am_sw {α : Type} (x : Int) (k : Nat → α) (d : Nat) : List (Int × Nat) → α
  | [] => k d
  | (a, t) :: l => if x = a then k t else am_sw x k d l
def am_ld : am_l → Nat → Option am_v
  | [], _ => none
  | a :: _, 0 => a
  | _ :: l, k + 1 => am_ld l k
/-- a store into the locals: what stood at the place goes, and a long that began one ahead -/
def am_sto (v : Option am_v) : am_l → Nat → am_l
  | [], _ => []
  | _ :: l, 0 => v :: l
  | a :: l, 1 => (match a with | some (.inr (.inl _)) => none | z => z) :: am_sto v l 0
  | a :: l, k + 2 => a :: am_sto v l (k + 1)
def am_i1 {α : Type} (bad : α) (st : List am_v) (f : Int → List am_v → α) : α := match st with
  | .inl a :: s => f a s
  | _ => bad
def am_l1 {α : Type} (bad : α) (st : List am_v) (f : Int → List am_v → α) : α := match st with
  | .inr (.inl a) :: s => f a s
  | _ => bad
def am_r1 {α : Type} (bad : α) (st : List am_v) (f : Nat → List am_v → α) : α := match st with
  | .inr (.inr a) :: s => f a s
  | _ => bad
/-- a reference to a cell of a kind -/
def am_ob {α : Type} (bad : α) (g : am_g) (r x : Nat) (f : Nat → α) : α := match r with
  | 0 => bad
  | k + 1 => bif Nat.blt k g.1 && Nat.beq (g.2.1 k).1 x then f k else bad
def am_up {β : Type} (M : Nat → Int → β) (k : Nat) (i : Int) (v : β) : Nat → Int → β := fun a => bif Nat.beq a k then (fun j => if j = i then v else M k j) else M a
def am_us {β : Type} (f : Nat → β) (k : Nat) (v : β) : Nat → β := fun a => bif Nat.beq a k then v else f a
def am_new (h : am_h) (s : Nat × Nat) : am_h := ((h.1.1 + 1, am_us h.1.2.1 h.1.1 s, am_us h.1.2.2 h.1.1 (fun _ => 0)), am_us h.2 h.1.1 (fun _ => 0))
def am_sp : Nat → List am_v → List am_v → Option (List am_v × List am_v)
  | 0, acc, st => some (acc, st)
  | _ + 1, _, [] => none
  | n + 1, acc, v :: st => am_sp n (v :: acc) st
def am_cat : am_v → Nat
  | .inr (.inl _) => 2
  | _ => 1
def am_wds (st : List am_v) : Nat := (st.map am_cat).sum
def am_push (rt : Nat) (r : Int) (st : List am_v) : List am_v := match rt with
  | 0 => st
  | 2 => .inr (.inl r) :: st
  | 3 => .inr (.inr r.toNat) :: st
  | _ => .inl r :: st
def am_isR (g : am_g) (ci : Nat) (args : List am_v) : Bool := match args with
  | .inr (.inr (k + 1)) :: _ => Nat.blt k g.1 && Nat.beq (g.2.1 k).1 ci
  | _ => false
def am_cpy (M : Nat → Int → Int) (a d : Nat) (sp dp n : Int) : Nat → Int → Int := fun k => bif Nat.beq k d then (fun j => if dp ≤ j ∧ j < dp + n then M a (sp + (j - dp)) else M d j) else M k
/-- one step: 'bad' where the machine isn't followed, 'ret' an end, 'go' the next place, 'call' a call -/
def am_step {α : Type} (bad : α) (ret : Int → am_h → α) (go : Nat → am_l → List am_v → am_h → Nat → Nat → α) (call : Nat → List am_v → am_h → (Int → am_h → α) → α) (rt : Nat) (o : Option am_e) (ls : am_l) (st : List am_v) (h : am_h) (cb sb : Nat) : α :=
  match o with
  | none => bad
  | some (ins, nx, v, x1, x2, x3, x4, x5, ts) =>
    match ins with
    | .iload _ | .iload_n _ => (match am_ld ls x1 with | some (.inl x) => go nx ls (.inl x :: st) h cb sb | _ => bad)
    | .lload _ | .lload_n _ => (match am_ld ls x1 with | some (.inr (.inl x)) => go nx ls (.inr (.inl x) :: st) h cb sb | _ => bad)
    | .aload _ | .aload_n _ => (match am_ld ls x1 with | some (.inr (.inr (x + 1))) => go nx ls (.inr (.inr (x + 1)) :: st) h cb sb | _ => bad)
    | .istore _ | .istore_n _ => am_i1 bad st fun x s => go nx (am_sto (some (.inl x)) ls x1) s h cb sb
    | .lstore _ | .lstore_n _ => am_l1 bad st fun x s => go nx (am_sto (some (.inr (.inl x))) (am_sto none ls (x1 + 1)) x1) s h cb sb
    | .astore _ | .astore_n _ => am_r1 bad st fun x s => (match x with | 0 => bad | y + 1 => go nx (am_sto (some (.inr (.inr (y + 1)))) ls x1) s h cb sb)
    | .iinc _ c => (match am_ld ls x1 with | some (.inl x) => go nx (am_sto (some (.inl (w32 (x + c)))) ls x1) st h cb sb | _ => bad)
    | .iconst _ | .bipush _ | .sipush _ | .ldc _ | .ldc_w _ => go nx ls (.inl v :: st) h cb sb
    | .lconst _ | .ldc2_w _ => go nx ls (.inr (.inl v) :: st) h cb sb
    | .iadd => am_i1 bad st fun b s => am_i1 bad s fun a s => go nx ls (.inl (w32 (a + b)) :: s) h cb sb
    | .isub => am_i1 bad st fun b s => am_i1 bad s fun a s => go nx ls (.inl (w32 (a - b)) :: s) h cb sb
    | .imul => am_i1 bad st fun b s => am_i1 bad s fun a s => go nx ls (.inl (w32 (a * b)) :: s) h cb sb
    | .idiv => am_i1 bad st fun b s => am_i1 bad s fun a s => if b = 0 then bad else go nx ls (.inl (w32 (Int.tdiv a b)) :: s) h cb sb
    | .irem => am_i1 bad st fun b s => am_i1 bad s fun a s => if b = 0 then bad else go nx ls (.inl (w32 (Int.tmod a b)) :: s) h cb sb
    | .iand => am_i1 bad st fun b s => am_i1 bad s fun a s => go nx ls (.inl (i_and a b) :: s) h cb sb
    | .ior => am_i1 bad st fun b s => am_i1 bad s fun a s => go nx ls (.inl (i_or a b) :: s) h cb sb
    | .ixor => am_i1 bad st fun b s => am_i1 bad s fun a s => go nx ls (.inl (i_xor a b) :: s) h cb sb
    | .ishl => am_i1 bad st fun b s => am_i1 bad s fun a s => go nx ls (.inl (i_shl a b) :: s) h cb sb
    | .ishr => am_i1 bad st fun b s => am_i1 bad s fun a s => go nx ls (.inl (i_shr a b) :: s) h cb sb
    | .iushr => am_i1 bad st fun b s => am_i1 bad s fun a s => go nx ls (.inl (i_ushr a b) :: s) h cb sb
    | .ladd => am_l1 bad st fun b s => am_l1 bad s fun a s => go nx ls (.inr (.inl (w64 (a + b))) :: s) h cb sb
    | .lsub => am_l1 bad st fun b s => am_l1 bad s fun a s => go nx ls (.inr (.inl (w64 (a - b))) :: s) h cb sb
    | .lmul => am_l1 bad st fun b s => am_l1 bad s fun a s => go nx ls (.inr (.inl (w64 (a * b))) :: s) h cb sb
    | .ldiv => am_l1 bad st fun b s => am_l1 bad s fun a s => if b = 0 then bad else go nx ls (.inr (.inl (w64 (Int.tdiv a b))) :: s) h cb sb
    | .lrem => am_l1 bad st fun b s => am_l1 bad s fun a s => if b = 0 then bad else go nx ls (.inr (.inl (w64 (Int.tmod a b))) :: s) h cb sb
    | .land => am_l1 bad st fun b s => am_l1 bad s fun a s => go nx ls (.inr (.inl (l_and a b)) :: s) h cb sb
    | .lor => am_l1 bad st fun b s => am_l1 bad s fun a s => go nx ls (.inr (.inl (l_or a b)) :: s) h cb sb
    | .lshl => am_i1 bad st fun b s => am_l1 bad s fun a s => go nx ls (.inr (.inl (l_shl a b)) :: s) h cb sb
    | .lushr => am_i1 bad st fun b s => am_l1 bad s fun a s => go nx ls (.inr (.inl (l_ushr a b)) :: s) h cb sb
    | .lcmp => am_l1 bad st fun b s => am_l1 bad s fun a s => go nx ls (.inl (l_cmp a b) :: s) h cb sb
    | .i2l => am_i1 bad st fun a s => go nx ls (.inr (.inl a) :: s) h cb sb
    | .l2i => am_l1 bad st fun a s => go nx ls (.inl (w32 a) :: s) h cb sb
    | .i2b => am_i1 bad st fun a s => go nx ls (.inl (w8 a) :: s) h cb sb
    | .dup => (match st with | .inl a :: s => go nx ls (.inl a :: .inl a :: s) h cb sb | .inr (.inr a) :: s => go nx ls (.inr (.inr a) :: .inr (.inr a) :: s) h cb sb | _ => bad)
    | .dup2 => (match st with | .inl a :: .inr (.inr b) :: s => go nx ls (.inl a :: .inr (.inr b) :: .inl a :: .inr (.inr b) :: s) h cb sb | _ => bad)
    | .getfield _ => am_r1 bad st fun r s => am_ob bad h.1 r (x1 + 5) fun k => (match x3 with
      | 1 => go nx ls (.inr (.inl (h.2 k (x2 : Int))) :: s) h cb sb
      | 2 => go nx ls (.inr (.inr (h.1.2.2 k (x2 : Int))) :: s) h cb sb
      | _ => go nx ls (.inl (h.2 k (x2 : Int)) :: s) h cb sb)
    | .putfield _ => (match x3 with
      | 0 => am_i1 bad st fun a s => am_r1 bad s fun r s => am_ob bad h.1 r (x1 + 5) fun k => go nx ls s (h.1, am_up h.2 k (x2 : Int) a) cb sb
      | 1 => am_l1 bad st fun a s => am_r1 bad s fun r s => am_ob bad h.1 r (x1 + 5) fun k => go nx ls s (h.1, am_up h.2 k (x2 : Int) a) cb sb
      | 2 => am_r1 bad st fun a s => am_r1 bad s fun r s => am_ob bad h.1 r (x1 + 5) fun k => bif Nat.ble a h.1.1 then go nx ls s ((h.1.1, h.1.2.1, am_up h.1.2.2 k (x2 : Int) a), h.2) cb sb else bad
      | _ => am_i1 bad st fun a s => am_r1 bad s fun r s => am_ob bad h.1 r (x1 + 5) fun k => if a = 0 ∨ a = 1 then go nx ls s (h.1, am_up h.2 k (x2 : Int) a) cb sb else bad)
    | .iaload => am_i1 bad st fun i s => am_r1 bad s fun r s => am_ob bad h.1 r 0 fun k => if 0 ≤ i ∧ i < ((h.1.2.1 k).2 : Int) then go nx ls (.inl (h.2 k i) :: s) h cb sb else bad
    | .laload => am_i1 bad st fun i s => am_r1 bad s fun r s => am_ob bad h.1 r 1 fun k => if 0 ≤ i ∧ i < ((h.1.2.1 k).2 : Int) then go nx ls (.inr (.inl (h.2 k i)) :: s) h cb sb else bad
    | .baload => am_i1 bad st fun i s => am_r1 bad s fun r s => am_ob bad h.1 r 2 fun k => if 0 ≤ i ∧ i < ((h.1.2.1 k).2 : Int) then go nx ls (.inl (h.2 k i) :: s) h cb sb else bad
    | .aaload => am_i1 bad st fun i s => am_r1 bad s fun r s => am_ob bad h.1 r x1 fun k => if 0 ≤ i ∧ i < ((h.1.2.1 k).2 : Int) then go nx ls (.inr (.inr (h.1.2.2 k i)) :: s) h cb sb else bad
    | .iastore => am_i1 bad st fun a s => am_i1 bad s fun i s => am_r1 bad s fun r s => am_ob bad h.1 r 0 fun k => if 0 ≤ i ∧ i < ((h.1.2.1 k).2 : Int) then go nx ls s (h.1, am_up h.2 k i a) cb sb else bad
    | .lastore => am_l1 bad st fun a s => am_i1 bad s fun i s => am_r1 bad s fun r s => am_ob bad h.1 r 1 fun k => if 0 ≤ i ∧ i < ((h.1.2.1 k).2 : Int) then go nx ls s (h.1, am_up h.2 k i a) cb sb else bad
    | .bastore => am_i1 bad st fun a s => am_i1 bad s fun i s => am_r1 bad s fun r s => am_ob bad h.1 r 2 fun k => if 0 ≤ i ∧ i < ((h.1.2.1 k).2 : Int) then go nx ls s (h.1, am_up h.2 k i (w8 a)) cb sb else bad
    | .aastore => am_r1 bad st fun a s => am_i1 bad s fun i s => am_r1 bad s fun r s => am_ob bad h.1 r x1 fun k => am_ob bad h.1 a (x2 + 5) fun k2 => if 0 ≤ i ∧ i < ((h.1.2.1 k).2 : Int) then go nx ls s ((h.1.1, h.1.2.1, am_up h.1.2.2 k i (k2 + 1)), h.2) cb sb else bad
    | .arraylength => am_r1 bad st fun r s => am_ob bad h.1 r x1 fun k => bif Nat.blt x1 5 && Nat.blt (h.1.2.1 k).2 2147483648 then go nx ls (.inl ((h.1.2.1 k).2 : Int) :: s) h cb sb else bad
    | .goto _ => go x1 ls st h cb sb
    | .ifCond c _ => am_i1 bad st fun a s => am_br c a 0 (go x1 ls s h cb sb) (go nx ls s h cb sb)
    | .if_icmp c _ => am_i1 bad st fun b s => am_i1 bad s fun a s => am_br c a b (go x1 ls s h cb sb) (go nx ls s h cb sb)
    | .tableswitch _ _ _ _ | .lookupswitch _ _ => am_i1 bad st fun a s => am_sw a (fun t => go t ls s h cb sb) x1 ts
    | .ireturn => (match rt with
      | 1 => am_i1 bad st fun a s => bif s.isEmpty then ret a h else bad
      | 4 => am_i1 bad st fun a s => bif s.isEmpty then (if a = 0 ∨ a = 1 then ret a h else bad) else bad
      | _ => bad)
    | .lreturn => (match rt with | 2 => am_l1 bad st fun a s => bif s.isEmpty then ret a h else bad | _ => bad)
    | .areturn => (match rt with | 3 => am_r1 bad st fun a s => bif s.isEmpty then (match a with | 0 => bad | b + 1 => ret ((b + 1 : Nat) : Int) h) else bad | _ => bad)
    | .return_ => (match rt with | 0 => bif st.isEmpty then ret 0 h else bad | _ => bad)
    | .new _ => bif Nat.ble 1 cb && Nat.ble x2 sb then go nx ls (.inr (.inr (h.1.1 + 1)) :: st) (am_new h (x1 + 5, 0)) (cb - 1) (sb - x2) else bad
    | .newarray _ | .anewarray _ => am_i1 bad st fun n s => if 0 ≤ n ∧ n ≤ 65536 then (bif Nat.ble 1 cb && Nat.ble n.toNat sb then go nx ls (.inr (.inr (h.1.1 + 1)) :: s) (am_new h (x1, n.toNat)) (cb - 1) (sb - n.toNat) else bad) else bad
    | .invokevirtual _ => (match am_sp x2 [] st with
      | some (as, s) => bif am_isR h.1 (v.toNat + 5) as && Nat.ble (am_wds s) 8 && Nat.ble x4 cb && Nat.ble x5 sb then call x1 as h (fun r h' => go nx ls (am_push x3 r s) h' (cb - x4) (sb - x5)) else bad
      | none => bad)
    | .invokespecial _ => (match v with
      | 2 => am_r1 bad st fun r s => bif Nat.ble (am_wds s) 8 && Nat.ble 1 r then go nx ls s h cb sb else bad
      | _ => (match am_sp x2 [] st with
        | some (as, s) => bif am_isR h.1 (v.toNat + 2) as && Nat.ble (am_wds s) 8 && Nat.ble x4 cb && Nat.ble x5 sb then call x1 as h (fun r h' => go nx ls (am_push x3 r s) h' (cb - x4) (sb - x5)) else bad
        | none => bad))
    | .invokestatic _ => (match v with
      | 1 => am_i1 bad st fun n s => am_i1 bad s fun dp s => am_r1 bad s fun d s => am_i1 bad s fun sp s => am_r1 bad s fun a s => am_ob bad h.1 d 0 fun kd => am_ob bad h.1 a 0 fun ka =>
          bif Nat.ble (am_wds s) 8 then (if 0 ≤ n ∧ 0 ≤ sp ∧ 0 ≤ dp ∧ sp + n ≤ ((h.1.2.1 ka).2 : Int) ∧ dp + n ≤ ((h.1.2.1 kd).2 : Int) then go nx ls s (h.1, am_cpy h.2 ka kd sp dp n) cb sb else bad) else bad
      | _ => (match am_sp x2 [] st with
        | some (as, s) => bif Nat.ble (am_wds s) 8 && Nat.ble x4 cb && Nat.ble x5 sb then call x1 as h (fun r h' => go nx ls (am_push x3 r s) h' (cb - x4) (sb - x5)) else bad
        | none => bad))
    | _ => bad
def am_at : List (Nat × am_e) → Nat → Option am_e
  | [], _ => none
  | (p, e) :: l, pc => bif Nat.beq p pc then some e else am_at l pc
abbrev am_m : Type := List (Nat × am_e) × Nat × Nat × Nat × Nat
def am_loc (args : List am_v) (mL : Nat) : am_l := match args with
  | [] => List.replicate mL none
  | .inr (.inl x) :: l => some (.inr (.inl x)) :: none :: am_loc l (mL - 2)
  | v :: l => some v :: am_loc l (mL - 1)
def am_ex (cal : Nat → List am_v → am_h → Option (Int × am_h)) (cd : List (Nat × am_e)) (rt : Nat) : Nat → Nat → am_l → List am_v → am_h → Nat → Nat → Option (Int × am_h)
  | 0, _, _, _, _, _, _ => none
  | n + 1, pc, ls, st, h, cb, sb => am_step none (fun r h => some (r, h)) (am_ex cal cd rt n) (fun z as h k => match cal z as h with | some (r, h') => k r h' | none => none) rt (am_at cd pc) ls st h cb sb
def am_call (P : Nat → Option am_m) : Nat → Nat → Nat → List am_v → am_h → Option (Int × am_h)
  | 0, _, _, _, _ => none
  | d + 1, F, y, args, h => match P y with
    | none => none
    | some (cd, mL, rt, mc, ms) => bif Nat.ble (am_wds args) mL then am_ex (am_call P d F) cd rt F 0 (am_loc args mL) [] h mc ms else none
end
section
/-! one step, related by parts -/
theorem am_i1_rel {α β : Type} (R : α → β → Prop) {bad : α} {bad' : β} (hb : R bad bad') (st : List am_v) {f : Int → List am_v → α} {f' : Int → List am_v → β} (hf : ∀ a s, R (f a s) (f' a s)) : R (am_i1 bad st f) (am_i1 bad' st f') := by
  unfold am_i1; split <;> first | exact hf _ _ | exact hb
theorem am_l1_rel {α β : Type} (R : α → β → Prop) {bad : α} {bad' : β} (hb : R bad bad') (st : List am_v) {f : Int → List am_v → α} {f' : Int → List am_v → β} (hf : ∀ a s, R (f a s) (f' a s)) : R (am_l1 bad st f) (am_l1 bad' st f') := by
  unfold am_l1; split <;> first | exact hf _ _ | exact hb
theorem am_r1_rel {α β : Type} (R : α → β → Prop) {bad : α} {bad' : β} (hb : R bad bad') (st : List am_v) {f : Nat → List am_v → α} {f' : Nat → List am_v → β} (hf : ∀ a s, R (f a s) (f' a s)) : R (am_r1 bad st f) (am_r1 bad' st f') := by
  unfold am_r1; split <;> first | exact hf _ _ | exact hb
theorem am_bif_rel {α β : Type} (R : α → β → Prop) (c : Bool) {t f : α} {t' f' : β} (ht : R t t') (hf : R f f') : R (bif c then t else f) (bif c then t' else f') := by
  cases c
  · exact hf
  · exact ht
theorem am_if_rel {α β : Type} (R : α → β → Prop) (c : Prop) [Decidable c] {t f : α} {t' f' : β} (ht : R t t') (hf : R f f') : R (if c then t else f) (if c then t' else f') := by
  by_cases h : c
  · rw [if_pos h, if_pos h]; exact ht
  · rw [if_neg h, if_neg h]; exact hf
theorem am_ob_rel {α β : Type} (R : α → β → Prop) {bad : α} {bad' : β} (hb : R bad bad') (g : am_g) (r x : Nat) {f : Nat → α} {f' : Nat → β} (hf : ∀ k, R (f k) (f' k)) : R (am_ob bad g r x f) (am_ob bad' g r x f') := by
  unfold am_ob; split
  · exact hb
  · exact am_bif_rel R _ (hf _) hb
theorem am_br_rel {α β : Type} (R : α → β → Prop) (c : ClassFile.Cond) (a b : Int) {t f : α} {t' f' : β} (ht : R t t') (hf : R f f') : R (am_br c a b t f) (am_br c a b t' f') := by
  cases c <;> first | exact am_if_rel R _ ht hf | exact am_if_rel R _ hf ht
theorem am_sw_rel {α β : Type} (R : α → β → Prop) (x : Int) (d : Nat) (l : List (Int × Nat)) {k : Nat → α} {k' : Nat → β} (hk : ∀ t, R (k t) (k' t)) : R (am_sw x k d l) (am_sw x k' d l) := by
  induction l with
  | nil => exact hk d
  | cons q l ih => obtain ⟨a, t⟩ := q; exact am_if_rel R _ (hk t) ih
set_option maxHeartbeats 4000000 in
theorem am_step_rel {α β : Type} (R : α → β → Prop) {bad : α} {bad' : β} {ret : Int → am_h → α} {ret' : Int → am_h → β} {go : Nat → am_l → List am_v → am_h → Nat → Nat → α} {go' : Nat → am_l → List am_v → am_h → Nat → Nat → β}
    {call : Nat → List am_v → am_h → (Int → am_h → α) → α} {call' : Nat → List am_v → am_h → (Int → am_h → β) → β}
    (hb : R bad bad') (hr : ∀ r h, R (ret r h) (ret' r h)) (hg : ∀ pc ls st h cb sb, R (go pc ls st h cb sb) (go' pc ls st h cb sb)) (hc : ∀ z as h k k', (∀ r h', R (k r h') (k' r h')) → R (call z as h k) (call' z as h k'))
    (rt : Nat) (o : Option am_e) (ls : am_l) (st : List am_v) (h : am_h) (cb sb : Nat) : R (am_step bad ret go call rt o ls st h cb sb) (am_step bad' ret' go' call' rt o ls st h cb sb) := by
  cases o with
  | none => exact hb
  | some e =>
    obtain ⟨ins, nx, v, x1, x2, x3, x4, x5, ts⟩ := e
    cases ins <;> (try exact hb) <;> dsimp only [am_step] <;>
      repeat' first
        | exact hb
        | exact hr _ _
        | exact hg _ _ _ _ _ _
        | refine am_i1_rel R hb _ (fun _ _ => ?_)
        | refine am_l1_rel R hb _ (fun _ _ => ?_)
        | refine am_r1_rel R hb _ (fun _ _ => ?_)
        | refine am_ob_rel R hb _ _ _ (fun _ => ?_)
        | refine am_br_rel R _ _ _ ?_ ?_
        | refine am_sw_rel R _ _ _ (fun _ => ?_)
        | refine am_bif_rel R _ ?_ ?_
        | refine am_if_rel R _ ?_ ?_
        | refine hc _ _ _ _ _ (fun _ _ => ?_)
        | split
/-! more fuel, more depth: the same answer -/
def am_le (f g : Nat → List am_v → am_h → Option (Int × am_h)) : Prop := ∀ z as h x, f z as h = some x → g z as h = some x
theorem am_ex_mono {f g : Nat → List am_v → am_h → Option (Int × am_h)} (hfg : am_le f g) (cd : List (Nat × am_e)) (rt : Nat) : ∀ (n n' : Nat), n ≤ n' → ∀ pc ls st h cb sb x, am_ex f cd rt n pc ls st h cb sb = some x → am_ex g cd rt n' pc ls st h cb sb = some x := by
  intro n
  induction n with
  | zero => intro n' _ pc ls st h cb sb x hx; cases hx
  | succ n ih =>
    intro n' hn pc ls st h cb sb x hx
    obtain ⟨m, rfl⟩ : ∃ m, n' = m + 1 := ⟨n' - 1, by omega⟩
    have key := am_step_rel (α := Option (Int × am_h)) (β := Option (Int × am_h)) (fun a b => ∀ x, a = some x → b = some x) (bad := none) (bad' := none) (ret := fun r h => some (r, h)) (ret' := fun r h => some (r, h)) (go := am_ex f cd rt n) (go' := am_ex g cd rt m)
      (call := fun z as h k => match f z as h with | some (r, h') => k r h' | none => none) (call' := fun z as h k => match g z as h with | some (r, h') => k r h' | none => none)
      (fun _ q => q) (fun _ _ _ q => q) (fun pc ls st h cb sb x q => ih m (by omega) pc ls st h cb sb x q)
      (fun z as h k k' hk x q => by
        try dsimp only at q ⊢
        cases e : f z as h with
        | none => rw [e] at q; cases q
        | some y => rw [e] at q; rw [hfg z as h y e]; exact hk _ _ x q)
      rt (am_at cd pc) ls st h cb sb
    exact key x hx
theorem am_call_mono (P : Nat → Option am_m) : ∀ (d d' F F' : Nat), d ≤ d' → F ≤ F' → am_le (am_call P d F) (am_call P d' F') := by
  intro d
  induction d with
  | zero => intro d' F F' _ _ z as h x hx; cases hx
  | succ d ih =>
    intro d' F F' hd hF z as h x hx
    obtain ⟨m, rfl⟩ : ∃ m, d' = m + 1 := ⟨d' - 1, by omega⟩
    unfold am_call at hx ⊢
    cases e : P z with
    | none => rw [e] at hx; cases hx
    | some y =>
      rw [e] at hx
      obtain ⟨cd, mL, rt, mc, ms⟩ := y
      dsimp only at hx ⊢
      cases b : Nat.ble (am_wds as) mL with
      | false => rw [b] at hx; cases hx
      | true =>
        rw [b] at hx
        exact am_ex_mono (ih m F F' (by omega) hF) cd rt F F' hF _ _ _ _ _ _ x hx
/-! what a call, a place comes to -/
def am_S (P : Nat → Option am_m) (d y : Nat) (args : List am_v) (h : am_h) (Q : Int → am_h → Prop) : Prop := ∃ F r h', am_call P d F y args h = some (r, h') ∧ Q r h'
def am_X (P : Nat → Option am_m) (d : Nat) (cd : List (Nat × am_e)) (rt : Nat) (Q : Int → am_h → Prop) (pc : Nat) (ls : am_l) (st : List am_v) (h : am_h) (cb sb : Nat) : Prop := ∃ F r h', am_ex (am_call P d F) cd rt F pc ls st h cb sb = some (r, h') ∧ Q r h'
theorem am_X_step (P : Nat → Option am_m) (d : Nat) (cd : List (Nat × am_e)) (rt : Nat) (Q : Int → am_h → Prop) (pc : Nat) (ls : am_l) (st : List am_v) (h : am_h) (cb sb : Nat) :
    am_X P d cd rt Q pc ls st h cb sb ↔ am_step False Q (am_X P d cd rt Q) (am_S P d) rt (am_at cd pc) ls st h cb sb := by
  constructor
  · rintro ⟨F, r, h', he, hq⟩
    cases F with
    | zero => cases he
    | succ n =>
      have key := am_step_rel (α := Option (Int × am_h)) (β := Prop) (fun a b => ∀ r h', a = some (r, h') → Q r h' → b) (bad := none) (bad' := False) (ret := fun r h => some (r, h)) (ret' := Q) (go := am_ex (am_call P d (n + 1)) cd rt n) (go' := am_X P d cd rt Q)
        (call := fun z as h k => match am_call P d (n + 1) z as h with | some (r, h') => k r h' | none => none) (call' := am_S P d)
        (fun _ _ q => by cases q) (fun r h r' h' q hq => by cases q; exact hq) (fun pc ls st h cb sb r h' q hq => ⟨n + 1, r, h', am_ex_mono (fun _ _ _ _ z => z) cd rt n (n + 1) (by omega) _ _ _ _ _ _ _ q, hq⟩)
        (fun z as h k k' hk r h' q hq => by
          try dsimp only at q
          cases e : am_call P d (n + 1) z as h with
          | none => rw [e] at q; cases q
          | some y => rw [e] at q; exact ⟨n + 1, y.1, y.2, e, hk _ _ r h' q hq⟩)
        rt (am_at cd pc) ls st h cb sb
      exact key r h' he hq
  · intro hs
    have one := fun n : Nat => am_step_rel (α := Nat → Option (Int × am_h)) (β := Option (Int × am_h)) (fun a b => a n = b) (bad := fun _ => none) (bad' := none) (ret := fun r h _ => some (r, h)) (ret' := fun r h => some (r, h)) (go := fun pc ls st h cb sb n => am_ex (am_call P d (n + 1)) cd rt n pc ls st h cb sb) (go' := am_ex (am_call P d (n + 1)) cd rt n)
      (call := fun z as h k n => match am_call P d (n + 1) z as h with | some (r, h') => k r h' n | none => none) (call' := fun z as h k => match am_call P d (n + 1) z as h with | some (r, h') => k r h' | none => none)
      rfl (fun _ _ => rfl) (fun _ _ _ _ _ _ => rfl) (fun z as h k k' hk => by
        dsimp only
        cases e : am_call P d (n + 1) z as h with
        | none => rfl
        | some y => exact hk _ _)
      rt (am_at cd pc) ls st h cb sb
    have key := am_step_rel (α := Nat → Option (Int × am_h)) (β := Prop) (fun a b => b → ∃ N, ∀ n, N ≤ n → ∃ r h', a n = some (r, h') ∧ Q r h') (bad := fun _ => none) (bad' := False) (ret := fun r h _ => some (r, h)) (ret' := Q) (go := fun pc ls st h cb sb n => am_ex (am_call P d (n + 1)) cd rt n pc ls st h cb sb) (go' := am_X P d cd rt Q)
      (call := fun z as h k n => match am_call P d (n + 1) z as h with | some (r, h') => k r h' n | none => none) (call' := am_S P d)
      (fun q => q.elim) (fun r h q => ⟨0, fun n _ => ⟨r, h, rfl, q⟩⟩) (fun pc ls st h cb sb q => by
        obtain ⟨F, r, h', he, hq⟩ := q
        exact ⟨F, fun n hn => ⟨r, h', am_ex_mono (am_call_mono P d d F (n + 1) (Nat.le_refl _) (by omega)) cd rt F n hn _ _ _ _ _ _ _ he, hq⟩⟩)
      (fun z as h k k' hk q => by
        obtain ⟨F, r, h', he, hq⟩ := q
        obtain ⟨N, hN⟩ := hk r h' hq
        refine ⟨N + F, fun n hn => ?_⟩
        try dsimp only
        rw [am_call_mono P d d F (n + 1) (Nat.le_refl _) (by omega) _ _ _ _ he]
        exact hN n (by omega))
      rt (am_at cd pc) ls st h cb sb
    obtain ⟨N, hN⟩ := key hs
    obtain ⟨r, h', e1, e2⟩ := hN N (Nat.le_refl _)
    rw [one N] at e1
    exact ⟨N + 1, r, h', e1, e2⟩
theorem am_S_eq (P : Nat → Option am_m) (d y : Nat) (args : List am_v) (h : am_h) (Q : Int → am_h → Prop) {cd : List (Nat × am_e)} {mL rt mc ms : Nat} (hy : P y = some (cd, mL, rt, mc, ms)) (hw : Nat.ble (am_wds args) mL = true) : am_S P (d + 1) y args h Q ↔ am_X P d cd rt Q 0 (am_loc args mL) [] h mc ms := by
  unfold am_S am_X am_call
  rw [hy]
  dsimp only
  rw [hw]
  exact Iff.rfl
theorem am_S_mono {P : Nat → Option am_m} {d d' y : Nat} {args : List am_v} {h : am_h} {Q Q' : Int → am_h → Prop} (hd : d ≤ d') (hs : am_S P d y args h Q) (hq : ∀ r h', Q r h' → Q' r h') : am_S P d' y args h Q' := by
  obtain ⟨F, r, h', he, hq0⟩ := hs
  exact ⟨F, r, h', am_call_mono P d d' F F hd (Nat.le_refl _) _ _ _ _ he, hq r h' hq0⟩
theorem am_X_mono {P : Nat → Option am_m} {d : Nat} {cd : List (Nat × am_e)} {rt pc cb sb : Nat} {ls : am_l} {st : List am_v} {h : am_h} {Q Q' : Int → am_h → Prop} (hs : am_X P d cd rt Q pc ls st h cb sb) (hq : ∀ r h', Q r h' → Q' r h') : am_X P d cd rt Q' pc ls st h cb sb := by
  obtain ⟨F, r, h', he, hq0⟩ := hs
  exact ⟨F, r, h', he, hq r h' hq0⟩
/-- the conditions from a place on, up to the cut places -/
def am_vc (P : Nat → Option am_m) (d : Nat) (cd : List (Nat × am_e)) (rt : Nat) (Q : Int → am_h → Prop) (cuts : List Nat) : Nat → Nat → am_l → List am_v → am_h → Nat → Nat → Prop
  | 0, pc, ls, st, h, cb, sb => am_X P d cd rt Q pc ls st h cb sb
  | n + 1, pc, ls, st, h, cb, sb => bif cuts.any (Nat.beq pc) then am_X P d cd rt Q pc ls st h cb sb else am_step False Q (am_vc P d cd rt Q cuts n) (am_S P d) rt (am_at cd pc) ls st h cb sb
theorem am_S_iff {P : Nat → Option am_m} {d z : Nat} {as : List am_v} {h : am_h} {Q Q' : Int → am_h → Prop} (hq : ∀ r h', Q r h' ↔ Q' r h') : am_S P d z as h Q ↔ am_S P d z as h Q' := ⟨fun q => am_S_mono (Nat.le_refl _) q (fun r h' => (hq r h').mp), fun q => am_S_mono (Nat.le_refl _) q (fun r h' => (hq r h').mpr)⟩
theorem am_vc_iff (P : Nat → Option am_m) (d : Nat) (cd : List (Nat × am_e)) (rt : Nat) (Q : Int → am_h → Prop) (cuts : List Nat) : ∀ n pc ls st h cb sb, am_X P d cd rt Q pc ls st h cb sb ↔ am_vc P d cd rt Q cuts n pc ls st h cb sb := by
  intro n
  induction n with
  | zero => intro pc ls st h cb sb; exact Iff.rfl
  | succ n ih =>
    intro pc ls st h cb sb
    unfold am_vc
    cases cuts.any (Nat.beq pc) with
    | true => exact Iff.rfl
    | false => exact (am_X_step P d cd rt Q pc ls st h cb sb).trans (am_step_rel (α := Prop) (β := Prop) (fun a b => a ↔ b) (bad := False) (bad' := False) (ret := Q) (ret' := Q) (call := am_S P d) (call' := am_S P d) Iff.rfl (fun _ _ => Iff.rfl) (fun pc ls st h cb sb => ih pc ls st h cb sb) (fun z as h k k' hk => am_S_iff hk) rt (am_at cd pc) ls st h cb sb)
/-- from a place: one step, then up to the cuts -/
theorem am_vc_from (P : Nat → Option am_m) (d : Nat) (cd : List (Nat × am_e)) (rt : Nat) (Q : Int → am_h → Prop) (cuts : List Nat) (n pc : Nat) (ls : am_l) (st : List am_v) (h : am_h) (cb sb : Nat) : am_X P d cd rt Q pc ls st h cb sb ↔ am_step False Q (am_vc P d cd rt Q cuts n) (am_S P d) rt (am_at cd pc) ls st h cb sb :=
  (am_X_step P d cd rt Q pc ls st h cb sb).trans (am_step_rel (α := Prop) (β := Prop) (fun a b => a ↔ b) (bad := False) (bad' := False) (ret := Q) (ret' := Q) (call := am_S P d) (call' := am_S P d) Iff.rfl (fun _ _ => Iff.rfl) (fun pc ls st h cb sb => am_vc_iff P d cd rt Q cuts n pc ls st h cb sb) (fun z as h k k' hk => am_S_iff hk) rt (am_at cd pc) ls st h cb sb)
end
section
/-! numbers: the small machine's and the machine's -/
def am_i32 (x : Int) : Prop := -2147483648 ≤ x ∧ x < 2147483648
def am_i64 (x : Int) : Prop := -9223372036854775808 ≤ x ∧ x < 9223372036854775808
theorem w32_rng (x : Int) : am_i32 (w32 x) := by unfold am_i32 w32; omega
theorem w64_rng (x : Int) : am_i64 (w64 x) := by unfold am_i64 w64; omega
theorem w8_rng (x : Int) : -128 ≤ w8 x ∧ w8 x < 128 := by unfold w8; omega
theorem w32_id {x : Int} (h : am_i32 x) : w32 x = x := by unfold am_i32 at h; unfold w32; omega
theorem w64_id {x : Int} (h : am_i64 x) : w64 x = x := by unfold am_i64 at h; unfold w64; omega
theorem am_to32 {x : Int} (h : am_i32 x) : (Int32.ofInt x).toInt = x := Int32.toInt_ofInt_of_le (by unfold am_i32 at h; omega) (by unfold am_i32 at h; omega)
theorem am_to64 {x : Int} (h : am_i64 x) : (Int64.ofInt x).toInt = x := Int64.toInt_ofInt_of_le (by unfold am_i64 at h; omega) (by unfold am_i64 at h; omega)
theorem am_bm32 (x : Int) : x.bmod (2 ^ 32) = w32 x := by unfold w32; rw [Int.bmod_def]; split <;> omega
theorem am_bm64 (x : Int) : x.bmod (2 ^ 64) = w64 x := by unfold w64; rw [Int.bmod_def]; split <;> omega
theorem am_of32 (x : Int) : Int32.ofInt (w32 x) = Int32.ofInt x := by
  apply Int32.toInt_inj.mp
  rw [am_to32 (w32_rng x), Int32.toInt_ofInt]
  exact (am_bm32 x).symm
theorem am_of64 (x : Int) : Int64.ofInt (w64 x) = Int64.ofInt x := by
  apply Int64.toInt_inj.mp
  rw [am_to64 (w64_rng x), Int64.toInt_ofInt]
  exact (am_bm64 x).symm
theorem am_r32 (x : Int32) : am_i32 x.toInt := ⟨by have := x.le_toInt; omega, by have := x.toInt_lt; omega⟩
theorem am_r64 (x : Int64) : am_i64 x.toInt := ⟨by have := x.le_toInt; omega, by have := x.toInt_lt; omega⟩
theorem am_eq32 {a b : Int} (ha : am_i32 a) (hb : am_i32 b) : Int32.ofInt a = Int32.ofInt b ↔ a = b := ⟨fun h => by have := congrArg Int32.toInt h; rwa [am_to32 ha, am_to32 hb] at this, fun h => by rw [h]⟩
theorem am_lt32 {a b : Int} (ha : am_i32 a) (hb : am_i32 b) : Int32.ofInt a < Int32.ofInt b ↔ a < b := by rw [Int32.lt_iff_toInt_lt, am_to32 ha, am_to32 hb]
theorem am_le32 {a b : Int} (ha : am_i32 a) (hb : am_i32 b) : Int32.ofInt a ≤ Int32.ofInt b ↔ a ≤ b := by rw [Int32.le_iff_toInt_le, am_to32 ha, am_to32 hb]
theorem am_eq64 {a b : Int} (ha : am_i64 a) (hb : am_i64 b) : Int64.ofInt a = Int64.ofInt b ↔ a = b := ⟨fun h => by have := congrArg Int64.toInt h; rwa [am_to64 ha, am_to64 hb] at this, fun h => by rw [h]⟩
theorem am_lt64 {a b : Int} (ha : am_i64 a) (hb : am_i64 b) : Int64.ofInt a < Int64.ofInt b ↔ a < b := by rw [Int64.lt_iff_toInt_lt, am_to64 ha, am_to64 hb]
theorem am_0 : am_i32 0 := by unfold am_i32; omega
theorem am_div32 {a b : Int} (ha : am_i32 a) (hb : am_i32 b) : Int32.ofInt a / Int32.ofInt b = Int32.ofInt (w32 (Int.tdiv a b)) := by
  apply Int32.toInt_inj.mp
  rw [Int32.toInt_div, am_to32 ha, am_to32 hb, am_to32 (w32_rng _), am_bm32]
theorem am_div64 {a b : Int} (ha : am_i64 a) (hb : am_i64 b) : Int64.ofInt a / Int64.ofInt b = Int64.ofInt (w64 (Int.tdiv a b)) := by
  apply Int64.toInt_inj.mp
  rw [Int64.toInt_div, am_to64 ha, am_to64 hb, am_to64 (w64_rng _), am_bm64]
theorem am_rem32 {a b : Int} (ha : am_i32 a) (hb : am_i32 b) : Int32.ofInt a - Int32.ofInt a / Int32.ofInt b * Int32.ofInt b = Int32.ofInt (w32 (Int.tmod a b)) := by
  rw [am_div32 ha hb, am_of32, am_of32, ← Int32.ofInt_mul, ← Int32.ofInt_sub]
  congr 1
  have := Int.mul_tdiv_add_tmod a b
  rw [Int.mul_comm] at this
  omega
theorem am_rem64 {a b : Int} (ha : am_i64 a) (hb : am_i64 b) : Int64.ofInt a - Int64.ofInt a / Int64.ofInt b * Int64.ofInt b = Int64.ofInt (w64 (Int.tmod a b)) := by
  rw [am_div64 ha hb, am_of64, am_of64, ← Int64.ofInt_mul, ← Int64.ofInt_sub]
  congr 1
  have := Int.mul_tdiv_add_tmod a b
  rw [Int.mul_comm] at this
  omega
theorem am_i2l {a : Int} (ha : am_i32 a) : (Int32.ofInt a).toInt64 = Int64.ofInt a := by
  apply Int64.toInt_inj.mp
  rw [Int32.toInt_toInt64, am_to32 ha, am_to64]
  unfold am_i32 at ha; unfold am_i64; omega
theorem am_l2i (a : Int) : (Int64.ofInt a).toInt32 = Int32.ofInt (w32 a) := by rw [am_of32]; exact Int64.toInt32_ofInt
theorem am_i2b (a : Int) : (Int32.ofInt a).toInt8.toInt32 = Int32.ofInt (w8 a) := by
  apply Int32.toInt_inj.mp
  rw [Int32.toInt8_ofInt, Int8.toInt_toInt32, Int8.toInt_ofInt, am_to32 (by have := w8_rng a; unfold am_i32; omega)]
  show a.bmod 256 = _
  unfold w8; rw [Int.bmod_def]; split <;> omega
theorem am_nat32 {i : Int} (h : am_i32 i) : (Int32.ofInt i).toNatClampNeg = i.toNat := by
  show (Int32.ofInt i).toInt.toNat = _
  rw [am_to32 h]
theorem am_in {i : Int} {n : Nat} (h : am_i32 i) (h0 : 0 ≤ i) (h1 : i < (n : Int)) : vp_in (Int32.ofInt i) n := by
  unfold vp_in
  rw [am_nat32 h, show (0 : Int32) = Int32.ofInt 0 from rfl, am_lt32 h am_0]
  omega
theorem am_cmp {a b : Int} (ha : am_i64 a) (hb : am_i64 b) : lg_cmp (Int64.ofInt a) (Int64.ofInt b) = Int32.ofInt (l_cmp a b) := by
  unfold lg_cmp l_cmp
  have h1 : (Int64.ofInt a > Int64.ofInt b) ↔ b < a := am_lt64 hb ha
  have h2 := am_eq64 ha hb
  by_cases c1 : b < a
  · rw [if_pos (h1.mpr c1), if_neg (by omega), if_neg (by omega)]; rfl
  · rw [if_neg (fun q => c1 (h1.mp q))]
    by_cases c2 : a = b
    · rw [if_pos (h2.mpr c2), if_neg (by omega), if_pos c2]; rfl
    · rw [if_neg (fun q => c2 (h2.mp q)), if_pos (by omega)]; rfl
end
section
/-! the small machine's heap as a world of the kit -/
def am_rv (ad : List Nat) (r : Nat) : Option Nat := match r with
  | 0 => none
  | k + 1 => ad[k]?
def am_cv (ad : List Nat) : am_v → Value
  | .inl x => .int (Int32.ofInt x)
  | .inr (.inl x) => .long (Int64.ofInt x)
  | .inr (.inr r) => va_rf (am_rv ad r)
def am_ok (n : Nat) : am_v → Prop
  | .inl x => am_i32 x
  | .inr (.inl x) => am_i64 x
  | .inr (.inr r) => r ≤ n
def am_fv (ad : List Nat) (t : Nat) (x : Int) (r : Nat) : Value := match t with
  | 1 => .long (Int64.ofInt x)
  | 2 => va_rf (am_rv ad r)
  | _ => .int (Int32.ofInt x)
def am_fs (ad : List Nat) (f : Int → Int) (rf : Int → Nat) : List Nat → Nat → List Value
  | [], _ => []
  | t :: ts, k => am_fv ad t (f (k : Int)) (rf (k : Int)) :: am_fs ad f rf ts (k + 1)
def am_el (ft : Nat → List Nat) (cs : Nat → ClassId) (ad : List Nat) (s : Nat × Nat) (f : Int → Int) (rf : Int → Nat) : va_E := match s.1 with
  | 0 => .inl (cs 0, s.2, .inl fun j => Int32.ofInt (f (j : Int)))
  | 1 => .inl (cs 1, s.2, .inr (.inl fun j => Int64.ofInt (f (j : Int))))
  | 2 => .inl (cs 2, s.2, .inl fun j => Int32.ofInt (f (j : Int)))
  | 3 => .inl (cs 3, s.2, .inr (.inr (.inr (.inr fun j => am_rv ad (rf (j : Int))))))
  | 4 => .inl (cs 4, s.2, .inr (.inr (.inr (.inr fun j => am_rv ad (rf (j : Int))))))
  | ci + 5 => .inr (ci, am_fs ad f rf (ft ci) 0)
def am_ty (ft : Nat → List Nat) (s : Nat × Nat) (i : Int) : Nat := match s.1 with
  | 0 => 0
  | 1 => 1
  | 2 => 4
  | 3 => 2
  | 4 => 2
  | ci + 5 => (ft ci).getD i.toNat 2
def am_tok (n t : Nat) (x : Int) (r : Nat) : Prop := match t with
  | 0 => am_i32 x
  | 1 => am_i64 x
  | 2 => r ≤ n
  | 3 => x = 0 ∨ x = 1
  | _ => -128 ≤ x ∧ x < 128
def am_wl (ft : Nat → List Nat) (cs : Nat → ClassId) (ad : List Nat) (h : am_h) : va_W := (List.range h.1.1).map fun k => (ad.getD k 0, am_el ft cs ad (h.1.2.1 k) (h.2 k) (h.1.2.2 k))
def am_cM (ft : Nat → List Nat) (h : am_h) : Prop := ∀ k, k < h.1.1 → ∀ i : Int, 0 ≤ i → am_tok h.1.1 (am_ty ft (h.1.2.1 k) i) (h.2 k i) (h.1.2.2 k i)
def am_RP (D : va_G) (cl : List vw_C) (ft : Nat → List Nat) (cs : Nat → ClassId) (A : Nat → Prop) (ad : List Nat) (h : am_h) (H : Heap) : Prop := ad.length = h.1.1 ∧ va_P D cl (am_wl ft cs ad h) H ∧ va_D A (am_wl ft cs ad h) ∧ am_cM ft h
theorem am_beq_f {a b : Nat} (h : a ≠ b) : Nat.beq a b = false := by
  cases e : Nat.beq a b with
  | false => rfl
  | true => exact absurd (Nat.eq_of_beq_eq_true e) h
theorem am_beq_t (a : Nat) : Nat.beq a a = true := Nat.beq_refl a
theorem am_rv_at {ad : List Nat} {k : Nat} (h : k < ad.length) : am_rv ad (k + 1) = some (ad.getD k 0) := by
  show ad[k]? = _
  rw [List.getElem?_eq_getElem h, List.getD_eq_getElem?_getD, List.getElem?_eq_getElem h]; rfl
theorem am_fs_get (ad : List Nat) (f : Int → Int) (rf : Int → Nat) : ∀ (ts : List Nat) (j k t : Nat), ts[k]? = some t → (am_fs ad f rf ts j)[k]? = some (am_fv ad t (f ((j + k : Nat) : Int)) (rf ((j + k : Nat) : Int)))
  | [], j, k, t, h => by simp at h
  | a :: ts, j, 0, t, h => by
    simp at h; subst h; rfl
  | a :: ts, j, k + 1, t, h => by
    have := am_fs_get ad f rf ts (j + 1) k t (by simpa using h)
    rw [show j + (k + 1) = j + 1 + k by omega]
    simpa [am_fs] using this
theorem am_fs_len (ad : List Nat) (f : Int → Int) (rf : Int → Nat) : ∀ (ts : List Nat) (j : Nat), (am_fs ad f rf ts j).length = ts.length
  | [], _ => rfl
  | _ :: ts, j => by simp [am_fs, am_fs_len ad f rf ts (j + 1)]
theorem am_fs_eq (ad ad' : List Nat) (f f' : Int → Int) (rf rf' : Int → Nat) : ∀ (ts : List Nat) (j : Nat), (∀ k t, ts[k]? = some t → am_fv ad t (f ((j + k : Nat) : Int)) (rf ((j + k : Nat) : Int)) = am_fv ad' t (f' ((j + k : Nat) : Int)) (rf' ((j + k : Nat) : Int))) → am_fs ad f rf ts j = am_fs ad' f' rf' ts j
  | [], _, _ => rfl
  | a :: ts, j, h => by
    simp only [am_fs]
    have h0 := h 0 a rfl
    have h1 := am_fs_eq ad ad' f f' rf rf' ts (j + 1) (fun k t ht => by
      have := h (k + 1) t (by simpa using ht)
      rw [show j + (k + 1) = j + 1 + k by omega] at this
      exact this)
    rw [h1]
    congr 1
theorem am_fs_set (ad : List Nat) (f f' : Int → Int) (rf rf' : Int → Nat) (ts : List Nat) (k t : Nat) (ht : ts[k]? = some t) (v : Value) (hv : am_fv ad t (f' (k : Int)) (rf' (k : Int)) = v) (ho : ∀ j : Nat, j ≠ k → f' (j : Int) = f (j : Int) ∧ rf' (j : Int) = rf (j : Int)) : (am_fs ad f rf ts 0).set k v = am_fs ad f' rf' ts 0 := by
  apply List.ext_getElem?
  intro j
  by_cases hj : j = k
  · subst hj
    have hl : j < (am_fs ad f rf ts 0).length := by rw [am_fs_len]; exact (List.getElem?_eq_some_iff.mp ht).1
    rw [List.getElem?_set_self hl, am_fs_get ad f' rf' ts 0 j t ht]
    simp [← hv]
  · rw [List.getElem?_set_ne (Ne.symm hj)]
    cases e : ts[j]? with
    | none =>
      have hl : ts.length ≤ j := by simpa using e
      rw [List.getElem?_eq_none (by rw [am_fs_len]; exact hl), List.getElem?_eq_none (by rw [am_fs_len]; exact hl)]
    | some u =>
      rw [am_fs_get ad f rf ts 0 j u e, am_fs_get ad f' rf' ts 0 j u e]
      have := ho j hj
      simp [this.1, this.2]
theorem am_wl_len (ft : Nat → List Nat) (cs : Nat → ClassId) (ad : List Nat) (h : am_h) : (am_wl ft cs ad h).length = h.1.1 := by simp [am_wl]
theorem am_wl_get {ft : Nat → List Nat} {cs : Nat → ClassId} {ad : List Nat} {h : am_h} {k : Nat} (hk : k < h.1.1) : (am_wl ft cs ad h)[k]? = some (ad.getD k 0, am_el ft cs ad (h.1.2.1 k) (h.2 k) (h.1.2.2 k)) := by
  simp [am_wl, hk]
theorem am_wl_set {ft : Nat → List Nat} {cs : Nat → ClassId} {ad : List Nat} {h h' : am_h} {k : Nat} (hn : h'.1.1 = h.1.1) {e : va_E} (he : am_el ft cs ad (h'.1.2.1 k) (h'.2 k) (h'.1.2.2 k) = e) (ho : ∀ j, j ≠ k → h'.1.2.1 j = h.1.2.1 j ∧ h'.2 j = h.2 j ∧ h'.1.2.2 j = h.1.2.2 j) (hk : k < h.1.1) :
    (am_wl ft cs ad h).set k (ad.getD k 0, e) = am_wl ft cs ad h' := by
  apply List.ext_getElem?
  intro j
  by_cases hj : j = k
  · subst hj
    rw [List.getElem?_set_self (by rw [am_wl_len]; exact hk), am_wl_get (by rw [hn]; exact hk), he]
  · rw [List.getElem?_set_ne (Ne.symm hj)]
    by_cases hl : j < h.1.1
    · rw [am_wl_get hl, am_wl_get (by rw [hn]; exact hl)]
      obtain ⟨e1, e2, e3⟩ := ho j hj
      rw [e1, e2, e3]
    · rw [List.getElem?_eq_none (by rw [am_wl_len]; omega), List.getElem?_eq_none (by rw [am_wl_len]; omega)]
theorem am_rv_app {ad : List Nat} {t : List Nat} {r : Nat} (h : r ≤ ad.length) : am_rv (ad ++ t) r = am_rv ad r := by
  cases r with
  | zero => rfl
  | succ k => exact List.getElem?_append_left (by omega)
theorem am_cv_app {ad t : List Nat} {v : am_v} (h : am_ok ad.length v) : am_cv (ad ++ t) v = am_cv ad v := by
  rcases v with x | x | r
  · rfl
  · rfl
  · show va_rf _ = va_rf _
    rw [am_rv_app h]
theorem am_el_app {ft : Nat → List Nat} {cs : Nat → ClassId} {ad t : List Nat} {s : Nat × Nat} {f : Int → Int} {rf : Int → Nat} (hh : ∀ i : Int, 0 ≤ i → am_tok ad.length (am_ty ft s i) (f i) (rf i)) : am_el ft cs (ad ++ t) s f rf = am_el ft cs ad s f rf := by
  obtain ⟨q, n⟩ := s
  match q with
  | 0 => rfl
  | 1 => rfl
  | 2 => rfl
  | 3 =>
    have e : (fun j : Nat => am_rv (ad ++ t) (rf (j : Int))) = fun j : Nat => am_rv ad (rf (j : Int)) := by
      funext j
      have q : rf (j : Int) ≤ ad.length := hh (j : Int) (by omega)
      exact am_rv_app q
    show Sum.inl (cs 3, n, Sum.inr (Sum.inr (Sum.inr (Sum.inr fun j : Nat => am_rv (ad ++ t) (rf (j : Int)))))) = _
    rw [e]; rfl
  | 4 =>
    have e : (fun j : Nat => am_rv (ad ++ t) (rf (j : Int))) = fun j : Nat => am_rv ad (rf (j : Int)) := by
      funext j
      have q : rf (j : Int) ≤ ad.length := hh (j : Int) (by omega)
      exact am_rv_app q
    show Sum.inl (cs 4, n, Sum.inr (Sum.inr (Sum.inr (Sum.inr fun j : Nat => am_rv (ad ++ t) (rf (j : Int)))))) = _
    rw [e]; rfl
  | ci + 5 =>
    show Sum.inr (ci, am_fs (ad ++ t) f rf (ft ci) 0) = Sum.inr (ci, am_fs ad f rf (ft ci) 0)
    rw [am_fs_eq (ad ++ t) ad f f rf rf (ft ci) 0 (fun k u hu => ?_)]
    have q := hh ((k : Nat) : Int) (by omega)
    have e1 : am_ty ft (ci + 5, n) (k : Int) = u := by
      show (ft ci).getD ((k : Int)).toNat 2 = u
      rw [Int.toNat_natCast, List.getD_eq_getElem?_getD, hu]; rfl
    rw [e1] at q
    simp only [Nat.zero_add]
    match u, q with
    | 0, _ => rfl
    | 1, _ => rfl
    | 2, q => show va_rf _ = va_rf _; rw [am_rv_app q]
    | u + 3, _ => rfl
theorem am_wl_new {ft : Nat → List Nat} {cs : Nat → ClassId} {ad : List Nat} {h : am_h} {s : Nat × Nat} {q : Nat} (hl : ad.length = h.1.1) (hc : am_cM ft h) : am_wl ft cs (ad ++ [q]) (am_new h s) = am_wl ft cs ad h ++ [(q, am_el ft cs ad s (fun _ => 0) (fun _ => 0))] := by
  apply List.ext_getElem?
  intro j
  have hn : (am_new h s).1.1 = h.1.1 + 1 := rfl
  by_cases hj : j < h.1.1
  · rw [am_wl_get (by rw [hn]; omega), List.getElem?_append_left (by rw [am_wl_len]; exact hj), am_wl_get hj]
    have b : Nat.beq j h.1.1 = false := am_beq_f (by omega)
    have e1 : (am_new h s).1.2.1 j = h.1.2.1 j := by show (bif Nat.beq j h.1.1 then _ else _) = _; rw [b]; rfl
    have e2 : (am_new h s).2 j = h.2 j := by show (bif Nat.beq j h.1.1 then _ else _) = _; rw [b]; rfl
    have e3 : (am_new h s).1.2.2 j = h.1.2.2 j := by show (bif Nat.beq j h.1.1 then _ else _) = _; rw [b]; rfl
    rw [e1, e2, e3, am_el_app (fun i hi => by rw [hl]; exact hc j hj i hi)]
    congr 2
    rw [List.getD_eq_getElem?_getD, List.getElem?_append_left (by omega), List.getD_eq_getElem?_getD]
  · by_cases hj2 : j = h.1.1
    · subst hj2
      rw [am_wl_get (by rw [hn]; omega), List.getElem?_append_right (by rw [am_wl_len]; omega), am_wl_len, Nat.sub_self]
      have b : Nat.beq h.1.1 h.1.1 = true := Nat.beq_refl _
      have e1 : (am_new h s).1.2.1 h.1.1 = s := by show (bif Nat.beq h.1.1 h.1.1 then _ else _) = _; rw [b]; rfl
      have e2 : (am_new h s).2 h.1.1 = fun _ => 0 := by show (bif Nat.beq h.1.1 h.1.1 then _ else _) = _; rw [b]; rfl
      have e3 : (am_new h s).1.2.2 h.1.1 = fun _ => 0 := by show (bif Nat.beq h.1.1 h.1.1 then _ else _) = _; rw [b]; rfl
      have e4 : (ad ++ [q]).getD h.1.1 0 = q := by rw [List.getD_eq_getElem?_getD, List.getElem?_append_right (by omega), hl, Nat.sub_self]; rfl
      rw [e1, e2, e3, e4]
      have e5 : am_el ft cs (ad ++ [q]) s (fun _ => 0) (fun _ => 0) = am_el ft cs ad s (fun _ => 0) (fun _ => 0) := am_el_app (fun i _ => by
        have : ∀ t, am_tok ad.length t 0 0 := fun t => match t with
          | 0 => am_0
          | 1 => by show am_i64 0; unfold am_i64; omega
          | 2 => Nat.zero_le _
          | 3 => Or.inl rfl
          | _ + 4 => by show -128 ≤ (0 : Int) ∧ (0 : Int) < 128; omega
        exact this _)
      rw [e5]; rfl
    · rw [List.getElem?_eq_none (by rw [am_wl_len, hn]; omega), List.getElem?_eq_none (by rw [List.length_append, am_wl_len]; simp; omega)]
end
section
/-! locals -/
theorem am_cat_cv (ad : List Nat) (v : am_v) : (am_cv ad v).category = am_cat v := by
  rcases v with x | x | r
  · rfl
  · rfl
  · show (va_rf (am_rv ad r)).category = 1
    cases am_rv ad r <;> rfl
theorem am_sto_len (o : Option am_v) : ∀ (ls : am_l) (i : Nat), (am_sto o ls i).length = ls.length
  | [], _ => by simp [am_sto]
  | _ :: l, 0 => by simp [am_sto]
  | _ :: l, 1 => by simp [am_sto, am_sto_len o l 0]
  | _ :: l, k + 2 => by simp [am_sto, am_sto_len o l (k + 1)]
theorem am_sto_ld (o : Option am_v) : ∀ (ls : am_l) (i k : Nat) (w : am_v), am_ld (am_sto o ls i) k = some w → (k = i ∧ o = some w) ∨ (k ≠ i ∧ am_ld ls k = some w ∧ ¬ (k + 1 = i ∧ am_cat w = 2))
  | [], i, k, w, h => by simp [am_sto, am_ld] at h
  | a :: l, 0, 0, w, h => by simp [am_sto, am_ld] at h; exact Or.inl ⟨rfl, h⟩
  | a :: l, 0, k + 1, w, h => by
    simp only [am_sto, am_ld] at h
    exact Or.inr ⟨by omega, h, by omega⟩
  | a :: l, 1, 0, w, h => by
    simp only [am_sto, am_ld] at h
    refine Or.inr ⟨by omega, ?_, ?_⟩
    · rcases a with _ | x | x | x
      · cases h
      · exact h
      · cases h
      · exact h
    · rintro ⟨-, hc⟩
      rcases a with _ | x | x | x
      · cases h
      · cases h; cases hc
      · cases h
      · cases h; cases hc
  | a :: l, 1, k + 1, w, h => by
    simp only [am_sto, am_ld] at h
    rcases am_sto_ld o l 0 k w h with ⟨h1, h2⟩ | ⟨h1, h2, h3⟩
    · exact Or.inl ⟨by omega, h2⟩
    · exact Or.inr ⟨by omega, h2, by omega⟩
  | a :: l, i + 2, 0, w, h => by
    simp only [am_sto, am_ld] at h
    exact Or.inr ⟨by omega, h, by omega⟩
  | a :: l, i + 2, k + 1, w, h => by
    simp only [am_sto, am_ld] at h
    rcases am_sto_ld o l (i + 1) k w h with ⟨h1, h2⟩ | ⟨h1, h2, h3⟩
    · exact Or.inl ⟨by omega, h2⟩
    · exact Or.inr ⟨by omega, h2, fun q => h3 ⟨by omega, q.2⟩⟩
theorem am_ld_lt : ∀ (ls : am_l) (k : Nat) (v : am_v), am_ld ls k = some v → k < ls.length
  | [], _, _, h => by simp [am_ld] at h
  | a :: l, 0, v, h => by simp
  | a :: l, k + 1, v, h => by
    have := am_ld_lt l k v (by simpa [am_ld] using h)
    simp; omega
/-- the locals as the small machine has them -/
def am_LR (ad : List Nat) (n : Nat) (cls : Array Slot) (nL : Nat) (ls : am_l) : Prop := ls.length = nL ∧ lv_has cls nL [] ∧ ∀ k v, am_ld ls k = some v → cls[k]? = some (.val (am_cv ad v)) ∧ am_ok n v
/-- the same as a list -/
def am_ll (ad : List Nat) (ls : am_l) : List (Nat × Value) := (List.range ls.length).filterMap fun k => (am_ld ls k).map fun v => (k, am_cv ad v)
theorem am_ll_mem {ad : List Nat} {ls : am_l} {k : Nat} {v : am_v} (h : am_ld ls k = some v) : (k, am_cv ad v) ∈ am_ll ad ls := by
  unfold am_ll
  rw [List.mem_filterMap]
  exact ⟨k, List.mem_range.mpr (am_ld_lt ls k v h), by rw [h]; rfl⟩
theorem am_LR.has {ad : List Nat} {n nL : Nat} {cls : Array Slot} {ls : am_l} (h : am_LR ad n cls nL ls) : lv_has cls nL (am_ll ad ls) := by
  obtain ⟨h1, h2, h3⟩ := h
  refine ⟨h2.1, h2.2.1, fun q hq => ?_⟩
  unfold am_ll at hq
  obtain ⟨k, -, hk⟩ := List.mem_filterMap.mp hq
  cases e : am_ld ls k with
  | none => rw [e] at hk; cases hk
  | some v => rw [e] at hk; cases hk; exact (h3 k v e).1
theorem am_LR.sto1 {ad : List Nat} {n nL i : Nat} {cls cls' : Array Slot} {ls : am_l} {v : am_v} (h : am_LR ad n cls nL ls) (hv : am_ok n v) {lv' : List (Nat × Value)} (hl : (i, am_cv ad v) :: (am_ll ad ls).filter (fun q => !(q.1 == i) && !(q.1 + 1 == i && q.2.category == 2)) = lv') (h' : lv_has cls' nL lv') : am_LR ad n cls' nL (am_sto (some v) ls i) := by
  subst hl
  refine ⟨by rw [am_sto_len]; exact h.1, ⟨h'.1, h'.2.1, fun q hq => by cases hq⟩, fun k w hw => ?_⟩
  rcases am_sto_ld (some v) ls i k w hw with ⟨rfl, e⟩ | ⟨h1, h2, h3⟩
  · cases e
    exact ⟨h'.2.2 (k, am_cv ad v) List.mem_cons_self, hv⟩
  · refine ⟨h'.2.2 (k, am_cv ad w) (List.mem_cons_of_mem _ (List.mem_filter.mpr ⟨am_ll_mem h2, ?_⟩)), (h.2.2 k w h2).2⟩
    have c1 : (k == i) = false := by simp [h1]
    show (!(k == i) && !(k + 1 == i && (am_cv ad w).category == 2)) = true
    rw [c1, am_cat_cv]
    by_cases c2 : k + 1 = i
    · have c3 : ¬ am_cat w = 2 := fun z => h3 ⟨c2, z⟩
      simp [c3]
    · simp [c2]
theorem am_LR.sto2 {ad : List Nat} {n nL i : Nat} {cls cls' : Array Slot} {ls : am_l} {v : am_v} (h : am_LR ad n cls nL ls) (hv : am_ok n v) {lv' : List (Nat × Value)} (hl : (i, am_cv ad v) :: (am_ll ad ls).filter (fun q => !(q.1 == i) && (!(q.1 == i + 1) && !(q.1 + 1 == i && q.2.category == 2))) = lv') (h' : lv_has cls' nL lv') : am_LR ad n cls' nL (am_sto (some v) (am_sto none ls (i + 1)) i) := by
  subst hl
  refine ⟨by rw [am_sto_len, am_sto_len]; exact h.1, ⟨h'.1, h'.2.1, fun q hq => by cases hq⟩, fun k w hw => ?_⟩
  rcases am_sto_ld (some v) _ i k w hw with ⟨rfl, e⟩ | ⟨h1, h2, h3⟩
  · cases e
    exact ⟨h'.2.2 (k, am_cv ad v) List.mem_cons_self, hv⟩
  · rcases am_sto_ld none ls (i + 1) k w h2 with ⟨-, e⟩ | ⟨h4, h5, h6⟩
    · cases e
    · refine ⟨h'.2.2 (k, am_cv ad w) (List.mem_cons_of_mem _ (List.mem_filter.mpr ⟨am_ll_mem h5, ?_⟩)), (h.2.2 k w h5).2⟩
      have c1 : (k == i) = false := by simp [h1]
      have c4 : (k == i + 1) = false := by simp [h4]
      show (!(k == i) && (!(k == i + 1) && !(k + 1 == i && (am_cv ad w).category == 2))) = true
      rw [c1, c4, am_cat_cv]
      by_cases c2 : k + 1 = i
      · have c3 : ¬ am_cat w = 2 := fun z => h3 ⟨c2, z⟩
        simp [c3]
      · simp [c2]
theorem am_ok_le {n n' : Nat} (h : n ≤ n') {v : am_v} (hv : am_ok n v) : am_ok n' v := by
  rcases v with x | x | r
  · exact hv
  · exact hv
  · exact Nat.le_trans hv h
theorem am_LR.app {ad t : List Nat} {n n' nL : Nat} {cls : Array Slot} {ls : am_l} (h : am_LR ad n cls nL ls) (hl : ad.length = n) (hn : n ≤ n') : am_LR (ad ++ t) n' cls nL ls :=
  ⟨h.1, h.2.1, fun k v hv => ⟨by rw [am_cv_app (by rw [hl]; exact (h.2.2 k v hv).2)]; exact (h.2.2 k v hv).1, am_ok_le hn (h.2.2 k v hv).2⟩⟩
theorem am_st_app {ad t : List Nat} {n : Nat} (hl : ad.length = n) : ∀ (st : List am_v), (∀ v ∈ st, am_ok n v) → st.map (am_cv (ad ++ t)) = st.map (am_cv ad)
  | [], _ => rfl
  | v :: st, h => by
    simp only [List.map_cons]
    rw [am_cv_app (by rw [hl]; exact h v List.mem_cons_self), am_st_app hl st (fun w hw => h w (List.mem_cons_of_mem _ hw))]
/-! the locals with which a method begins -/
def am_sz : List am_v → Nat
  | [] => 0
  | v :: l => am_cat v + am_sz l
theorem am_loc_len : ∀ (args : List am_v) (mL : Nat), am_sz args ≤ mL → (am_loc args mL).length = mL
  | [], mL, _ => by simp [am_loc]
  | .inl x :: l, mL, h => by
    have h' : 1 + am_sz l ≤ mL := h
    have := am_loc_len l (mL - 1) (by omega)
    simp [am_loc, this]; omega
  | .inr (.inr x) :: l, mL, h => by
    have h' : 1 + am_sz l ≤ mL := h
    have := am_loc_len l (mL - 1) (by omega)
    simp [am_loc, this]; omega
  | .inr (.inl x) :: l, mL, h => by
    have h' : 2 + am_sz l ≤ mL := h
    have := am_loc_len l (mL - 2) (by omega)
    simp [am_loc, this]; omega
theorem am_ld_rep (m k : Nat) (v : am_v) : am_ld (List.replicate m none) k = some v → False := by
  induction m generalizing k with
  | zero => intro h; simp [am_ld] at h
  | succ m ih =>
    intro h
    rw [List.replicate_succ] at h
    cases k with
    | zero => simp [am_ld] at h
    | succ k => exact ih k (by simpa [am_ld] using h)
theorem am_loc_ld (ad : List Nat) : ∀ (args : List am_v) (mL j k : Nat) (w : am_v), am_ld (am_loc args mL) k = some w → (j + k, am_cv ad w) ∈ lv_args j (args.map (am_cv ad)) ∧ w ∈ args
  | [], mL, j, k, w, h => (am_ld_rep mL k w (by simpa [am_loc] using h)).elim
  | .inl x :: l, mL, j, 0, w, h => by
    simp [am_loc, am_ld] at h; subst h
    exact ⟨by simp [lv_args], List.mem_cons_self⟩
  | .inl x :: l, mL, j, k + 1, w, h => by
    obtain ⟨h1, h2⟩ := am_loc_ld ad l (mL - 1) (j + 1) k w (by simpa [am_loc, am_ld] using h)
    refine ⟨?_, List.mem_cons_of_mem _ h2⟩
    rw [List.map_cons, lv_args, am_cat_cv]
    refine List.mem_cons_of_mem _ ?_
    rw [show j + (k + 1) = j + 1 + k by omega]
    exact h1
  | .inr (.inr x) :: l, mL, j, 0, w, h => by
    simp [am_loc, am_ld] at h; subst h
    exact ⟨by simp [lv_args], List.mem_cons_self⟩
  | .inr (.inr x) :: l, mL, j, k + 1, w, h => by
    obtain ⟨h1, h2⟩ := am_loc_ld ad l (mL - 1) (j + 1) k w (by simpa [am_loc, am_ld] using h)
    refine ⟨?_, List.mem_cons_of_mem _ h2⟩
    rw [List.map_cons, lv_args, am_cat_cv]
    refine List.mem_cons_of_mem _ ?_
    rw [show j + (k + 1) = j + 1 + k by omega]
    exact h1
  | .inr (.inl x) :: l, mL, j, 0, w, h => by
    simp [am_loc, am_ld] at h; subst h
    exact ⟨by simp [lv_args], List.mem_cons_self⟩
  | .inr (.inl x) :: l, mL, j, 1, w, h => by simp [am_loc, am_ld] at h
  | .inr (.inl x) :: l, mL, j, k + 2, w, h => by
    obtain ⟨h1, h2⟩ := am_loc_ld ad l (mL - 2) (j + 2) k w (by simpa [am_loc, am_ld] using h)
    refine ⟨?_, List.mem_cons_of_mem _ h2⟩
    rw [List.map_cons, lv_args, am_cat_cv]
    refine List.mem_cons_of_mem _ ?_
    rw [show j + (k + 2) = j + 2 + k by omega]
    exact h1
theorem am_sl_len (ad : List Nat) : ∀ (args : List am_v), (lg_sl (args.map (am_cv ad))).length = am_sz args
  | [] => rfl
  | v :: l => by
    have := am_sl_len ad l
    simp only [lg_sl, List.map_cons, List.flatMap_cons, List.length_append] at this ⊢
    rw [this, am_cat_cv]
    show _ = am_cat v + am_sz l
    rcases v with x | x | x <;> simp [am_cat]
theorem am_LR.entry {ad : List Nat} {n mL : Nat} {args : List am_v} (hs : am_sz args ≤ mL) (ho : ∀ v ∈ args, am_ok n v) : am_LR ad n ((lg_sl (args.map (am_cv ad)) ++ List.replicate (mL - (lg_sl (args.map (am_cv ad))).length) Slot.unset).toArray) mL (am_loc args mL) := by
  have hl := lv_entry (args.map (am_cv ad)) (n := mL) (by rw [am_sl_len]; exact hs)
  refine ⟨am_loc_len args mL hs, ⟨hl.1, hl.2.1, fun q hq => by cases hq⟩, fun k v hv => ?_⟩
  obtain ⟨h1, h2⟩ := am_loc_ld ad args mL 0 k v hv
  rw [Nat.zero_add] at h1
  exact ⟨hl.2.2 _ h1, ho v h2⟩
end
section
/-! inversions -/
theorem am_i1_some {β : Type} {st : List am_v} {f : Int → List am_v → Option β} {x : β} (h : am_i1 none st f = some x) : ∃ a t, st = .inl a :: t ∧ f a t = some x := by
  unfold am_i1 at h; split at h
  · exact ⟨_, _, rfl, h⟩
  · cases h
theorem am_l1_some {β : Type} {st : List am_v} {f : Int → List am_v → Option β} {x : β} (h : am_l1 none st f = some x) : ∃ a t, st = .inr (.inl a) :: t ∧ f a t = some x := by
  unfold am_l1 at h; split at h
  · exact ⟨_, _, rfl, h⟩
  · cases h
theorem am_r1_some {β : Type} {st : List am_v} {f : Nat → List am_v → Option β} {x : β} (h : am_r1 none st f = some x) : ∃ a t, st = .inr (.inr a) :: t ∧ f a t = some x := by
  unfold am_r1 at h; split at h
  · exact ⟨_, _, rfl, h⟩
  · cases h
theorem am_bif_some {β : Type} {b : Bool} {t : Option β} {x : β} (h : (bif b then t else none) = some x) : b = true ∧ t = some x := by
  cases b
  · cases h
  · exact ⟨rfl, h⟩
theorem am_if_some {β : Type} {b : Prop} [Decidable b] {t : Option β} {x : β} (h : (if b then t else none) = some x) : b ∧ t = some x := by
  by_cases q : b
  · rw [if_pos q] at h; exact ⟨q, h⟩
  · rw [if_neg q] at h; cases h
theorem am_ifn_some {β : Type} {b : Prop} [Decidable b] {t : Option β} {x : β} (h : (if b then none else t) = some x) : ¬ b ∧ t = some x := by
  by_cases q : b
  · rw [if_pos q] at h; cases h
  · rw [if_neg q] at h; exact ⟨q, h⟩
theorem am_ob_some {β : Type} {g : am_g} {r x : Nat} {f : Nat → Option β} {z : β} (h : am_ob none g r x f = some z) : ∃ k, r = k + 1 ∧ k < g.1 ∧ (g.2.1 k).1 = x ∧ f k = some z := by
  unfold am_ob at h; split at h
  · cases h
  · obtain ⟨q, h⟩ := am_bif_some h
    rw [Bool.and_eq_true] at q
    exact ⟨_, rfl, Nat.le_of_ble_eq_true q.1, Nat.eq_of_beq_eq_true q.2, h⟩
/-! the tables' words of a state -/
def am_tys (cs : Nat → ClassId) (C3 C4 : String) : List (ClassId × FieldType) := [(cs 0, .int), (cs 1, .long), (cs 2, .byte), (cs 3, .object C3), (cs 4, .object C4)]
def am_K (D : va_G) (cl : List vw_C) (cs : Nat → ClassId) (C3 C4 : String) (nw : List (String × Nat × MethodName × String)) (U : State) : Prop := va_K D cl (am_tys cs C3 C4) U ∧ va_AO C3 U ∧ va_AO C4 U ∧ ∀ q ∈ nw, va_Nw (.methodLinkNest q.1 q.2.1 q.2.2.1 q.2.2.2) U
theorem am_K.warm {D : va_G} {cl : List vw_C} {cs : Nat → ClassId} {C3 C4 : String} {nw : List (String × Nat × MethodName × String)} {s U : State} (h : am_K D cl cs C3 C4 nw s) (hW : s.WarmedH U.vm) : am_K D cl cs C3 C4 nw U := ⟨va_K.moved hW.alike h.1, va_AO.moved hW.alike h.2.1, va_AO.moved hW.alike h.2.2.1, fun q hq => va_Nw.warmM hW (h.2.2.2 q hq)⟩
theorem am_K.calling {D : va_G} {cl : List vw_C} {cs : Nat → ClassId} {C3 C4 : String} {nw : List (String × Nat × MethodName × String)} {U : State} (h : am_K D cl cs C3 C4 nw U) (g : JFrame) (mk : MethodId) (a : Array Value) : am_K D cl cs C3 C4 nw (U.calling g mk a) := ⟨va_K.moved (u := U) (U := U.calling g mk a) (Vm.Alike.refl U.vm) h.1, va_AO.moved (u := U) (U := U.calling g mk a) (Vm.Alike.refl U.vm) h.2.1, va_AO.moved (u := U) (U := U.calling g mk a) (Vm.Alike.refl U.vm) h.2.2.1, fun q hq => va_Nw.same (u := U) (U := U.calling g mk a) rfl rfl (h.2.2.2 q hq)⟩
def am_rvv (ad : List Nat) (rt : Nat) (r : Int) : Option Value := match rt with
  | 0 => none
  | 2 => some (.long (Int64.ofInt r))
  | 3 => some (va_rf (am_rv ad r.toNat))
  | _ => some (.int (Int32.ofInt r))
def am_rok (n rt : Nat) (r : Int) : Prop := match rt with
  | 0 => True
  | 2 => am_i64 r
  | 3 => r.toNat ≤ n
  | _ => am_i32 r
def am_Qc (D : va_G) (cl : List vw_C) (ft : Nat → List Nat) (cs : Nat → ClassId) (A : Nat → Prop) (ad0 : List Nat) (rt : Nat) (r : Int) (h' : am_h) : Array Value → State → Outcome → State → Prop := fun _ st oc t => (∃ t', oc = .returned (am_rvv (ad0 ++ t') rt r) ∧ am_RP D cl ft cs A (ad0 ++ t') h' t.heap ∧ am_rok h'.1.1 rt r) ∧ va_F A st t
/-- the machine goes well from a place of the small machine -/
def am_G (p : Program) (l : Launch) (e : Env) (R : Room) (s : State) (m : MethodId) (args : Array Value) (below : List Frame) (meth : Method) (c : Code) (D : va_G) (cl : List vw_C) (ft : Nat → List Nat) (cs : Nat → ClassId) (A : Nat → Prop) (ad0 : List Nat) (mL rt mc ms : Nat) (r : Int) (h' : am_h) (pc : Nat) (ls : am_l) (st : List am_v) (h : am_h) (cb sb : Nat) : Prop :=
  ∀ (t : List Nat) (H : Heap) (locs : List Loc) (cls : Array Slot) (cells slots : Nat), am_RP D cl ft cs A (ad0 ++ t) h H → va_S A s.heap H locs → am_LR (ad0 ++ t) h.1.1 cls mL ls → (∀ v ∈ st, am_ok h.1.1 v) → cells + cb = mc → slots + sb = ms →
    W p l e R s m args below meth c H locs cells slots (MQ below (am_Qc D cl ft cs A ad0 rt r h') args s mc ms A) (F0 m pc cls (st.map (am_cv (ad0 ++ t))))
/-- what is fixed within a method -/
def am_cx (p : Program) (R : Room) (s : State) (m : MethodId) (args : Array Value) (meth : Method) (c : Code) (D : va_G) (cl : List vw_C) (cs : Nat → ClassId) (A : Nat → Prop) (C3 C4 : String) (nw : List (String × Nat × MethodName × String)) (Ts : List Cond) (cc : ByteArray) (mL : Nat) (ret : Option FieldType) (y : MethodName) (d mc ms : Nat) : Prop :=
  p.tables.exec = Jvm.exec ∧ c.code = cc ∧ c.maxLocals = mL ∧ meth.sig.returnType = ret ∧ (∀ w ∈ Ts, w.before args s = true) ∧ s.vm.findClass y.cls = some m.cls ∧ meth.locks = false ∧ meth.name = y.name ∧ am_K D cl cs C3 C4 nw s ∧ (∀ q, s.heap.size ≤ q → A q) ∧ R.frames = d + 1 ∧ R.locals = (d + 1) * 50 ∧ R.cells = mc ∧ R.slots = ms
end
section
section AM7
variable {p : Program} {l : Launch} {e : Env} {R : Room} {s : State} {m : MethodId} {args : Array Value} {below : List Frame} {meth : Method} {c : Code}
variable {D : va_G} {cl : List vw_C} {ft : Nat → List Nat} {cs : Nat → ClassId} {A : Nat → Prop} {C3 C4 : String} {nw : List (String × Nat × MethodName × String)} {Ts : List Cond} {cc : ByteArray} {ret : Option FieldType} {y : MethodName} {d : Nat}
variable {ad0 : List Nat} {mL rt mc ms : Nat} {r : Int} {h' : am_h} {pc : Nat} {ls : am_l} {st : List am_v} {h : am_h} {cb sb : Nat}
theorem am_t_iload (X : am_cx p R s m args meth c D cl cs A C3 C4 nw Ts cc mL ret y d mc ms) {k : Nat} {x : Int} (hd : decode cc pc = .ok (.iload k, 2)) (e1 : am_ld ls k = some (.inl x)) (ih : am_G p l e R s m args below meth c D cl ft cs A ad0 mL rt mc ms r h' (pc + 2) ls (.inl x :: st) h cb sb) : am_G p l e R s m args below meth c D cl ft cs A ad0 mL rt mc ms r h' pc ls st h cb sb := by
  obtain ⟨hx, hb, hml, hr, hts, hown, hlk, hnm, hK, hA, hRf, hRl, hRc, hRs⟩ := X
  intro t H locs cls cells slots hR hS hL hO h1 h2
  have q := hL.2.2 _ _ e1
  exact lv_iload hx hb hd q.1 (ih t H locs cls cells slots hR hS hL (List.forall_mem_cons.mpr ⟨q.2, hO⟩) h1 h2)
theorem am_t_iload_n (X : am_cx p R s m args meth c D cl cs A C3 C4 nw Ts cc mL ret y d mc ms) {k : Fin 4} {x : Int} (hd : decode cc pc = .ok (.iload_n k, 1)) (e1 : am_ld ls (k : Nat) = some (.inl x)) (ih : am_G p l e R s m args below meth c D cl ft cs A ad0 mL rt mc ms r h' (pc + 1) ls (.inl x :: st) h cb sb) : am_G p l e R s m args below meth c D cl ft cs A ad0 mL rt mc ms r h' pc ls st h cb sb := by
  obtain ⟨hx, hb, hml, hr, hts, hown, hlk, hnm, hK, hA, hRf, hRl, hRc, hRs⟩ := X
  intro t H locs cls cells slots hR hS hL hO h1 h2
  have q := hL.2.2 _ _ e1
  exact lv_iload_n hx hb hd rfl q.1 (ih t H locs cls cells slots hR hS hL (List.forall_mem_cons.mpr ⟨q.2, hO⟩) h1 h2)
theorem am_t_lload (X : am_cx p R s m args meth c D cl cs A C3 C4 nw Ts cc mL ret y d mc ms) {k : Nat} {x : Int} (hd : decode cc pc = .ok (.lload k, 2)) (e1 : am_ld ls k = some (.inr (.inl x))) (ih : am_G p l e R s m args below meth c D cl ft cs A ad0 mL rt mc ms r h' (pc + 2) ls (.inr (.inl x) :: st) h cb sb) : am_G p l e R s m args below meth c D cl ft cs A ad0 mL rt mc ms r h' pc ls st h cb sb := by
  obtain ⟨hx, hb, hml, hr, hts, hown, hlk, hnm, hK, hA, hRf, hRl, hRc, hRs⟩ := X
  intro t H locs cls cells slots hR hS hL hO h1 h2
  have q := hL.2.2 _ _ e1
  exact lv_lload hx hb hd q.1 (ih t H locs cls cells slots hR hS hL (List.forall_mem_cons.mpr ⟨q.2, hO⟩) h1 h2)
theorem am_t_lload_n (X : am_cx p R s m args meth c D cl cs A C3 C4 nw Ts cc mL ret y d mc ms) {k : Fin 4} {x : Int} (hd : decode cc pc = .ok (.lload_n k, 1)) (e1 : am_ld ls (k : Nat) = some (.inr (.inl x))) (ih : am_G p l e R s m args below meth c D cl ft cs A ad0 mL rt mc ms r h' (pc + 1) ls (.inr (.inl x) :: st) h cb sb) : am_G p l e R s m args below meth c D cl ft cs A ad0 mL rt mc ms r h' pc ls st h cb sb := by
  obtain ⟨hx, hb, hml, hr, hts, hown, hlk, hnm, hK, hA, hRf, hRl, hRc, hRs⟩ := X
  intro t H locs cls cells slots hR hS hL hO h1 h2
  have q := hL.2.2 _ _ e1
  exact lv_lload_n hx hb hd rfl q.1 (ih t H locs cls cells slots hR hS hL (List.forall_mem_cons.mpr ⟨q.2, hO⟩) h1 h2)
theorem am_t_aload (X : am_cx p R s m args meth c D cl cs A C3 C4 nw Ts cc mL ret y d mc ms) {k : Nat} {x : Nat} (hd : decode cc pc = .ok (.aload k, 2)) (e1 : am_ld ls k = some (.inr (.inr (x + 1)))) (ih : am_G p l e R s m args below meth c D cl ft cs A ad0 mL rt mc ms r h' (pc + 2) ls (.inr (.inr (x + 1)) :: st) h cb sb) : am_G p l e R s m args below meth c D cl ft cs A ad0 mL rt mc ms r h' pc ls st h cb sb := by
  obtain ⟨hx, hb, hml, hr, hts, hown, hlk, hnm, hK, hA, hRf, hRl, hRc, hRs⟩ := X
  intro t H locs cls cells slots hR hS hL hO h1 h2
  have q := hL.2.2 _ _ e1
  have q2 : x + 1 ≤ h.1.1 := q.2
  have ev : am_cv (ad0 ++ t) (.inr (.inr (x + 1))) = .ref ((ad0 ++ t).getD x 0) := by show va_rf _ = _; rw [am_rv_at (by rw [hR.1]; omega)]; rfl
  have q1 := q.1
  rw [ev] at q1
  have k0 := ih t H locs cls cells slots hR hS hL (List.forall_mem_cons.mpr ⟨q.2, hO⟩) h1 h2
  rw [List.map_cons, ev] at k0
  exact lv_aload hx hb hd q1 k0
theorem am_t_aload_n (X : am_cx p R s m args meth c D cl cs A C3 C4 nw Ts cc mL ret y d mc ms) {k : Fin 4} {x : Nat} (hd : decode cc pc = .ok (.aload_n k, 1)) (e1 : am_ld ls (k : Nat) = some (.inr (.inr (x + 1)))) (ih : am_G p l e R s m args below meth c D cl ft cs A ad0 mL rt mc ms r h' (pc + 1) ls (.inr (.inr (x + 1)) :: st) h cb sb) : am_G p l e R s m args below meth c D cl ft cs A ad0 mL rt mc ms r h' pc ls st h cb sb := by
  obtain ⟨hx, hb, hml, hr, hts, hown, hlk, hnm, hK, hA, hRf, hRl, hRc, hRs⟩ := X
  intro t H locs cls cells slots hR hS hL hO h1 h2
  have q := hL.2.2 _ _ e1
  have q2 : x + 1 ≤ h.1.1 := q.2
  have ev : am_cv (ad0 ++ t) (.inr (.inr (x + 1))) = .ref ((ad0 ++ t).getD x 0) := by show va_rf _ = _; rw [am_rv_at (by rw [hR.1]; omega)]; rfl
  have q1 := q.1
  rw [ev] at q1
  have k0 := ih t H locs cls cells slots hR hS hL (List.forall_mem_cons.mpr ⟨q.2, hO⟩) h1 h2
  rw [List.map_cons, ev] at k0
  exact lv_aload_n hx hb hd rfl q1 k0
theorem am_t_istore (X : am_cx p R s m args meth c D cl cs A C3 C4 nw Ts cc mL ret y d mc ms) {k : Nat} {x : Int} (hd : decode cc pc = .ok (.istore k, 2)) (hk : k < mL) (ih : am_G p l e R s m args below meth c D cl ft cs A ad0 mL rt mc ms r h' (pc + 2) (am_sto (some (.inl x)) ls k) st h cb sb) : am_G p l e R s m args below meth c D cl ft cs A ad0 mL rt mc ms r h' pc ls (.inl x :: st) h cb sb := by
  obtain ⟨hx, hb, hml, hr, hts, hown, hlk, hnm, hK, hA, hRf, hRl, hRc, hRs⟩ := X
  intro t H locs cls cells slots hR hS hL hO h1 h2
  obtain ⟨o1, hO⟩ := List.forall_mem_cons.mp hO
  exact lv_istore hx hb hd hL.has hk rfl (fun cls' hl' => ih t H locs cls' cells slots hR hS (hL.sto1 (v := .inl x) o1 rfl hl') hO h1 h2)
theorem am_t_istore_n (X : am_cx p R s m args meth c D cl cs A C3 C4 nw Ts cc mL ret y d mc ms) {k : Fin 4} {x : Int} (hd : decode cc pc = .ok (.istore_n k, 1)) (hk : (k : Nat) < mL) (ih : am_G p l e R s m args below meth c D cl ft cs A ad0 mL rt mc ms r h' (pc + 1) (am_sto (some (.inl x)) ls (k : Nat)) st h cb sb) : am_G p l e R s m args below meth c D cl ft cs A ad0 mL rt mc ms r h' pc ls (.inl x :: st) h cb sb := by
  obtain ⟨hx, hb, hml, hr, hts, hown, hlk, hnm, hK, hA, hRf, hRl, hRc, hRs⟩ := X
  intro t H locs cls cells slots hR hS hL hO h1 h2
  obtain ⟨o1, hO⟩ := List.forall_mem_cons.mp hO
  exact lv_istore_n hx hb hd rfl hL.has hk rfl (fun cls' hl' => ih t H locs cls' cells slots hR hS (hL.sto1 (v := .inl x) o1 rfl hl') hO h1 h2)
theorem am_t_lstore (X : am_cx p R s m args meth c D cl cs A C3 C4 nw Ts cc mL ret y d mc ms) {k : Nat} {x : Int} (hd : decode cc pc = .ok (.lstore k, 2)) (hk : k + 1 < mL) (ih : am_G p l e R s m args below meth c D cl ft cs A ad0 mL rt mc ms r h' (pc + 2) (am_sto (some (.inr (.inl x))) (am_sto none ls (k + 1)) k) st h cb sb) : am_G p l e R s m args below meth c D cl ft cs A ad0 mL rt mc ms r h' pc ls (.inr (.inl x) :: st) h cb sb := by
  obtain ⟨hx, hb, hml, hr, hts, hown, hlk, hnm, hK, hA, hRf, hRl, hRc, hRs⟩ := X
  intro t H locs cls cells slots hR hS hL hO h1 h2
  obtain ⟨o1, hO⟩ := List.forall_mem_cons.mp hO
  exact lv_lstore hx hb hd hL.has hk rfl (fun cls' hl' => ih t H locs cls' cells slots hR hS (hL.sto2 (v := .inr (.inl x)) o1 rfl hl') hO h1 h2)
theorem am_t_lstore_n (X : am_cx p R s m args meth c D cl cs A C3 C4 nw Ts cc mL ret y d mc ms) {k : Fin 4} {x : Int} (hd : decode cc pc = .ok (.lstore_n k, 1)) (hk : (k : Nat) + 1 < mL) (ih : am_G p l e R s m args below meth c D cl ft cs A ad0 mL rt mc ms r h' (pc + 1) (am_sto (some (.inr (.inl x))) (am_sto none ls ((k : Nat) + 1)) (k : Nat)) st h cb sb) : am_G p l e R s m args below meth c D cl ft cs A ad0 mL rt mc ms r h' pc ls (.inr (.inl x) :: st) h cb sb := by
  obtain ⟨hx, hb, hml, hr, hts, hown, hlk, hnm, hK, hA, hRf, hRl, hRc, hRs⟩ := X
  intro t H locs cls cells slots hR hS hL hO h1 h2
  obtain ⟨o1, hO⟩ := List.forall_mem_cons.mp hO
  exact lv_lstore_n hx hb hd rfl hL.has hk rfl (fun cls' hl' => ih t H locs cls' cells slots hR hS (hL.sto2 (v := .inr (.inl x)) o1 rfl hl') hO h1 h2)
theorem am_t_astore (X : am_cx p R s m args meth c D cl cs A C3 C4 nw Ts cc mL ret y d mc ms) {k : Nat} {x : Nat} (hd : decode cc pc = .ok (.astore k, 2)) (hk : k < mL) (ih : am_G p l e R s m args below meth c D cl ft cs A ad0 mL rt mc ms r h' (pc + 2) (am_sto (some (.inr (.inr (x + 1)))) ls k) st h cb sb) : am_G p l e R s m args below meth c D cl ft cs A ad0 mL rt mc ms r h' pc ls (.inr (.inr (x + 1)) :: st) h cb sb := by
  obtain ⟨hx, hb, hml, hr, hts, hown, hlk, hnm, hK, hA, hRf, hRl, hRc, hRs⟩ := X
  intro t H locs cls cells slots hR hS hL hO h1 h2
  obtain ⟨o1, hO⟩ := List.forall_mem_cons.mp hO
  have q2 : x + 1 ≤ h.1.1 := o1
  have ev : am_cv (ad0 ++ t) (.inr (.inr (x + 1))) = .ref ((ad0 ++ t).getD x 0) := by show va_rf _ = _; rw [am_rv_at (by rw [hR.1]; omega)]; rfl
  rw [List.map_cons, ev]
  exact lv_astore hx hb hd hL.has hk rfl (fun cls' hl' => ih t H locs cls' cells slots hR hS (hL.sto1 (v := .inr (.inr (x + 1))) o1 (by rw [ev]) hl') hO h1 h2)
theorem am_t_astore_n (X : am_cx p R s m args meth c D cl cs A C3 C4 nw Ts cc mL ret y d mc ms) {k : Fin 4} {x : Nat} (hd : decode cc pc = .ok (.astore_n k, 1)) (hk : (k : Nat) < mL) (ih : am_G p l e R s m args below meth c D cl ft cs A ad0 mL rt mc ms r h' (pc + 1) (am_sto (some (.inr (.inr (x + 1)))) ls (k : Nat)) st h cb sb) : am_G p l e R s m args below meth c D cl ft cs A ad0 mL rt mc ms r h' pc ls (.inr (.inr (x + 1)) :: st) h cb sb := by
  obtain ⟨hx, hb, hml, hr, hts, hown, hlk, hnm, hK, hA, hRf, hRl, hRc, hRs⟩ := X
  intro t H locs cls cells slots hR hS hL hO h1 h2
  obtain ⟨o1, hO⟩ := List.forall_mem_cons.mp hO
  have q2 : x + 1 ≤ h.1.1 := o1
  have ev : am_cv (ad0 ++ t) (.inr (.inr (x + 1))) = .ref ((ad0 ++ t).getD x 0) := by show va_rf _ = _; rw [am_rv_at (by rw [hR.1]; omega)]; rfl
  rw [List.map_cons, ev]
  exact lv_astore_n hx hb hd rfl hL.has hk rfl (fun cls' hl' => ih t H locs cls' cells slots hR hS (hL.sto1 (v := .inr (.inr (x + 1))) o1 (by rw [ev]) hl') hO h1 h2)
theorem am_t_iinc (X : am_cx p R s m args meth c D cl cs A C3 C4 nw Ts cc mL ret y d mc ms) {k : Nat} {n x : Int} (hd : decode cc pc = .ok (.iinc k n, 3)) (hk : k < mL) (e1 : am_ld ls k = some (.inl x)) (ih : am_G p l e R s m args below meth c D cl ft cs A ad0 mL rt mc ms r h' (pc + 3) (am_sto (some (.inl (w32 (x + n)))) ls k) st h cb sb) : am_G p l e R s m args below meth c D cl ft cs A ad0 mL rt mc ms r h' pc ls st h cb sb := by
  obtain ⟨hx, hb, hml, hr, hts, hown, hlk, hnm, hK, hA, hRf, hRl, hRc, hRs⟩ := X
  intro t H locs cls cells slots hR hS hL hO h1 h2
  have hm := am_ll_mem (ad := ad0 ++ t) e1
  obtain ⟨j, hj⟩ := List.getElem?_of_mem hm
  exact lv_iinc hx hb hd hL.has hj (v := Int32.ofInt (w32 (x + n))) (by rw [am_of32, Int32.ofInt_add]) hk rfl (fun cls' hl' => ih t H locs cls' cells slots hR hS (hL.sto1 (v := .inl (w32 (x + n))) (w32_rng _) rfl hl') hO h1 h2)
theorem am_t_iconst (X : am_cx p R s m args meth c D cl cs A C3 C4 nw Ts cc mL ret y d mc ms) {n : Int} {v : Int} (hd : decode cc pc = .ok (.iconst n, 1)) (hv : Int32.ofInt n = Int32.ofInt v) (hi : am_i32 v) (ih : am_G p l e R s m args below meth c D cl ft cs A ad0 mL rt mc ms r h' (pc + 1) ls (.inl v :: st) h cb sb) : am_G p l e R s m args below meth c D cl ft cs A ad0 mL rt mc ms r h' pc ls st h cb sb := by
  obtain ⟨hx, hb, hml, hr, hts, hown, hlk, hnm, hK, hA, hRf, hRl, hRc, hRs⟩ := X
  intro t H locs cls cells slots hR hS hL hO h1 h2
  exact lv_iconst hx hb hd hv (ih t H locs cls cells slots hR hS hL (List.forall_mem_cons.mpr ⟨hi, hO⟩) h1 h2)
theorem am_t_bipush (X : am_cx p R s m args meth c D cl cs A C3 C4 nw Ts cc mL ret y d mc ms) {n : Int} {v : Int} (hd : decode cc pc = .ok (.bipush n, 2)) (hv : (Int8.ofInt n).toInt32 = Int32.ofInt v) (hi : am_i32 v) (ih : am_G p l e R s m args below meth c D cl ft cs A ad0 mL rt mc ms r h' (pc + 2) ls (.inl v :: st) h cb sb) : am_G p l e R s m args below meth c D cl ft cs A ad0 mL rt mc ms r h' pc ls st h cb sb := by
  obtain ⟨hx, hb, hml, hr, hts, hown, hlk, hnm, hK, hA, hRf, hRl, hRc, hRs⟩ := X
  intro t H locs cls cells slots hR hS hL hO h1 h2
  exact lv_bipush hx hb hd hv (ih t H locs cls cells slots hR hS hL (List.forall_mem_cons.mpr ⟨hi, hO⟩) h1 h2)
theorem am_t_sipush (X : am_cx p R s m args meth c D cl cs A C3 C4 nw Ts cc mL ret y d mc ms) {n : Int} {v : Int} (hd : decode cc pc = .ok (.sipush n, 3)) (hv : (Int16.ofInt n).toInt32 = Int32.ofInt v) (hi : am_i32 v) (ih : am_G p l e R s m args below meth c D cl ft cs A ad0 mL rt mc ms r h' (pc + 3) ls (.inl v :: st) h cb sb) : am_G p l e R s m args below meth c D cl ft cs A ad0 mL rt mc ms r h' pc ls st h cb sb := by
  obtain ⟨hx, hb, hml, hr, hts, hown, hlk, hnm, hK, hA, hRf, hRl, hRc, hRs⟩ := X
  intro t H locs cls cells slots hR hS hL hO h1 h2
  exact lv_sipush hx hb hd hv (ih t H locs cls cells slots hR hS hL (List.forall_mem_cons.mpr ⟨hi, hO⟩) h1 h2)
theorem am_t_lconst (X : am_cx p R s m args meth c D cl cs A C3 C4 nw Ts cc mL ret y d mc ms) {n : Fin 2} {v : Int} (hd : decode cc pc = .ok (.lconst n, 1)) (hv : Int64.ofNat (n : Nat) = Int64.ofInt v) (hi : am_i64 v) (ih : am_G p l e R s m args below meth c D cl ft cs A ad0 mL rt mc ms r h' (pc + 1) ls (.inr (.inl v) :: st) h cb sb) : am_G p l e R s m args below meth c D cl ft cs A ad0 mL rt mc ms r h' pc ls st h cb sb := by
  obtain ⟨hx, hb, hml, hr, hts, hown, hlk, hnm, hK, hA, hRf, hRl, hRc, hRs⟩ := X
  intro t H locs cls cells slots hR hS hL hO h1 h2
  exact lv_lconst hx hb hd hv (ih t H locs cls cells slots hR hS hL (List.forall_mem_cons.mpr ⟨hi, hO⟩) h1 h2)
theorem am_t_ldc (X : am_cx p R s m args meth c D cl cs A C3 C4 nw Ts cc mL ret y d mc ms) {k : Nat} {v : Int} (hd : decode cc pc = .ok (.ldc k, 2)) (hv : Cond.constant y.cls k (Int32.ofInt v) ∈ Ts) (hi : am_i32 v) (ih : am_G p l e R s m args below meth c D cl ft cs A ad0 mL rt mc ms r h' (pc + 2) ls (.inl v :: st) h cb sb) : am_G p l e R s m args below meth c D cl ft cs A ad0 mL rt mc ms r h' pc ls st h cb sb := by
  obtain ⟨hx, hb, hml, hr, hts, hown, hlk, hnm, hK, hA, hRf, hRl, hRc, hRs⟩ := X
  intro t H locs cls cells slots hR hS hL hO h1 h2
  exact lv_ldc hx hb hown (hts _ hv) hd (ih t H locs cls cells slots hR hS hL (List.forall_mem_cons.mpr ⟨hi, hO⟩) h1 h2)
theorem am_t_ldcw (X : am_cx p R s m args meth c D cl cs A C3 C4 nw Ts cc mL ret y d mc ms) {k : Nat} {v : Int} (hd : decode cc pc = .ok (.ldc_w k, 3)) (hv : Cond.constant y.cls k (Int32.ofInt v) ∈ Ts) (hi : am_i32 v) (ih : am_G p l e R s m args below meth c D cl ft cs A ad0 mL rt mc ms r h' (pc + 3) ls (.inl v :: st) h cb sb) : am_G p l e R s m args below meth c D cl ft cs A ad0 mL rt mc ms r h' pc ls st h cb sb := by
  obtain ⟨hx, hb, hml, hr, hts, hown, hlk, hnm, hK, hA, hRf, hRl, hRc, hRs⟩ := X
  intro t H locs cls cells slots hR hS hL hO h1 h2
  exact lv_ldcw hx hb hown (hts _ hv) hd (ih t H locs cls cells slots hR hS hL (List.forall_mem_cons.mpr ⟨hi, hO⟩) h1 h2)
theorem am_t_ldc2 (X : am_cx p R s m args meth c D cl cs A C3 C4 nw Ts cc mL ret y d mc ms) {k : Nat} {v : Int} (hd : decode cc pc = .ok (.ldc2_w k, 3)) (hv : Cond.constantLong y.cls k (Int64.ofInt v) ∈ Ts) (hi : am_i64 v) (ih : am_G p l e R s m args below meth c D cl ft cs A ad0 mL rt mc ms r h' (pc + 3) ls (.inr (.inl v) :: st) h cb sb) : am_G p l e R s m args below meth c D cl ft cs A ad0 mL rt mc ms r h' pc ls st h cb sb := by
  obtain ⟨hx, hb, hml, hr, hts, hown, hlk, hnm, hK, hA, hRf, hRl, hRc, hRs⟩ := X
  intro t H locs cls cells slots hR hS hL hO h1 h2
  exact lv_ldc2 hx hb hown (hts _ hv) hd (ih t H locs cls cells slots hR hS hL (List.forall_mem_cons.mpr ⟨hi, hO⟩) h1 h2)
theorem am_t_iadd (X : am_cx p R s m args meth c D cl cs A C3 C4 nw Ts cc mL ret y d mc ms) {a b : Int} (hd : decode cc pc = .ok (.iadd, 1)) (ih : am_G p l e R s m args below meth c D cl ft cs A ad0 mL rt mc ms r h' (pc + 1) ls (.inl (w32 (a + b)) :: st) h cb sb) : am_G p l e R s m args below meth c D cl ft cs A ad0 mL rt mc ms r h' pc ls (.inl b :: .inl a :: st) h cb sb := by
  obtain ⟨hx, hb, hml, hr, hts, hown, hlk, hnm, hK, hA, hRf, hRl, hRc, hRs⟩ := X
  intro t H locs cls cells slots hR hS hL hO h1 h2
  obtain ⟨ob, hO⟩ := List.forall_mem_cons.mp hO
  obtain ⟨oa, hO⟩ := List.forall_mem_cons.mp hO
  have k0 := ih t H locs cls cells slots hR hS hL (List.forall_mem_cons.mpr ⟨w32_rng _, hO⟩) h1 h2
  have ev : Int32.ofInt a + Int32.ofInt b = Int32.ofInt (w32 (a + b)) := by rw [am_of32, Int32.ofInt_add]
  have e2 : am_cv (ad0 ++ t) (.inl (w32 (a + b))) = .int (Int32.ofInt a + Int32.ofInt b) := congrArg Value.int ev.symm
  rw [List.map_cons, e2] at k0
  exact lv_iadd hx hb hd k0
theorem am_t_isub (X : am_cx p R s m args meth c D cl cs A C3 C4 nw Ts cc mL ret y d mc ms) {a b : Int} (hd : decode cc pc = .ok (.isub, 1)) (ih : am_G p l e R s m args below meth c D cl ft cs A ad0 mL rt mc ms r h' (pc + 1) ls (.inl (w32 (a - b)) :: st) h cb sb) : am_G p l e R s m args below meth c D cl ft cs A ad0 mL rt mc ms r h' pc ls (.inl b :: .inl a :: st) h cb sb := by
  obtain ⟨hx, hb, hml, hr, hts, hown, hlk, hnm, hK, hA, hRf, hRl, hRc, hRs⟩ := X
  intro t H locs cls cells slots hR hS hL hO h1 h2
  obtain ⟨ob, hO⟩ := List.forall_mem_cons.mp hO
  obtain ⟨oa, hO⟩ := List.forall_mem_cons.mp hO
  have k0 := ih t H locs cls cells slots hR hS hL (List.forall_mem_cons.mpr ⟨w32_rng _, hO⟩) h1 h2
  have ev : Int32.ofInt a - Int32.ofInt b = Int32.ofInt (w32 (a - b)) := by rw [am_of32, Int32.ofInt_sub]
  have e2 : am_cv (ad0 ++ t) (.inl (w32 (a - b))) = .int (Int32.ofInt a - Int32.ofInt b) := congrArg Value.int ev.symm
  rw [List.map_cons, e2] at k0
  exact lv_isub hx hb hd k0
theorem am_t_imul (X : am_cx p R s m args meth c D cl cs A C3 C4 nw Ts cc mL ret y d mc ms) {a b : Int} (hd : decode cc pc = .ok (.imul, 1)) (ih : am_G p l e R s m args below meth c D cl ft cs A ad0 mL rt mc ms r h' (pc + 1) ls (.inl (w32 (a * b)) :: st) h cb sb) : am_G p l e R s m args below meth c D cl ft cs A ad0 mL rt mc ms r h' pc ls (.inl b :: .inl a :: st) h cb sb := by
  obtain ⟨hx, hb, hml, hr, hts, hown, hlk, hnm, hK, hA, hRf, hRl, hRc, hRs⟩ := X
  intro t H locs cls cells slots hR hS hL hO h1 h2
  obtain ⟨ob, hO⟩ := List.forall_mem_cons.mp hO
  obtain ⟨oa, hO⟩ := List.forall_mem_cons.mp hO
  have k0 := ih t H locs cls cells slots hR hS hL (List.forall_mem_cons.mpr ⟨w32_rng _, hO⟩) h1 h2
  have ev : Int32.ofInt a * Int32.ofInt b = Int32.ofInt (w32 (a * b)) := by rw [am_of32, Int32.ofInt_mul]
  have e2 : am_cv (ad0 ++ t) (.inl (w32 (a * b))) = .int (Int32.ofInt a * Int32.ofInt b) := congrArg Value.int ev.symm
  rw [List.map_cons, e2] at k0
  exact lv_imul hx hb hd k0
theorem am_t_iand (X : am_cx p R s m args meth c D cl cs A C3 C4 nw Ts cc mL ret y d mc ms) {a b : Int} (hd : decode cc pc = .ok (.iand, 1)) (ih : am_G p l e R s m args below meth c D cl ft cs A ad0 mL rt mc ms r h' (pc + 1) ls (.inl (i_and a b) :: st) h cb sb) : am_G p l e R s m args below meth c D cl ft cs A ad0 mL rt mc ms r h' pc ls (.inl b :: .inl a :: st) h cb sb := by
  obtain ⟨hx, hb, hml, hr, hts, hown, hlk, hnm, hK, hA, hRf, hRl, hRc, hRs⟩ := X
  intro t H locs cls cells slots hR hS hL hO h1 h2
  obtain ⟨ob, hO⟩ := List.forall_mem_cons.mp hO
  obtain ⟨oa, hO⟩ := List.forall_mem_cons.mp hO
  have k0 := ih t H locs cls cells slots hR hS hL (List.forall_mem_cons.mpr ⟨am_r32 _, hO⟩) h1 h2
  have ev : Int32.ofInt a &&& Int32.ofInt b = Int32.ofInt (i_and a b) := (Int32.ofInt_toInt _).symm
  have e2 : am_cv (ad0 ++ t) (.inl (i_and a b)) = .int (Int32.ofInt a &&& Int32.ofInt b) := congrArg Value.int ev.symm
  rw [List.map_cons, e2] at k0
  exact lv_iand hx hb hd k0
theorem am_t_ior (X : am_cx p R s m args meth c D cl cs A C3 C4 nw Ts cc mL ret y d mc ms) {a b : Int} (hd : decode cc pc = .ok (.ior, 1)) (ih : am_G p l e R s m args below meth c D cl ft cs A ad0 mL rt mc ms r h' (pc + 1) ls (.inl (i_or a b) :: st) h cb sb) : am_G p l e R s m args below meth c D cl ft cs A ad0 mL rt mc ms r h' pc ls (.inl b :: .inl a :: st) h cb sb := by
  obtain ⟨hx, hb, hml, hr, hts, hown, hlk, hnm, hK, hA, hRf, hRl, hRc, hRs⟩ := X
  intro t H locs cls cells slots hR hS hL hO h1 h2
  obtain ⟨ob, hO⟩ := List.forall_mem_cons.mp hO
  obtain ⟨oa, hO⟩ := List.forall_mem_cons.mp hO
  have k0 := ih t H locs cls cells slots hR hS hL (List.forall_mem_cons.mpr ⟨am_r32 _, hO⟩) h1 h2
  have ev : Int32.ofInt a ||| Int32.ofInt b = Int32.ofInt (i_or a b) := (Int32.ofInt_toInt _).symm
  have e2 : am_cv (ad0 ++ t) (.inl (i_or a b)) = .int (Int32.ofInt a ||| Int32.ofInt b) := congrArg Value.int ev.symm
  rw [List.map_cons, e2] at k0
  exact lv_ior hx hb hd k0
theorem am_t_ixor (X : am_cx p R s m args meth c D cl cs A C3 C4 nw Ts cc mL ret y d mc ms) {a b : Int} (hd : decode cc pc = .ok (.ixor, 1)) (ih : am_G p l e R s m args below meth c D cl ft cs A ad0 mL rt mc ms r h' (pc + 1) ls (.inl (i_xor a b) :: st) h cb sb) : am_G p l e R s m args below meth c D cl ft cs A ad0 mL rt mc ms r h' pc ls (.inl b :: .inl a :: st) h cb sb := by
  obtain ⟨hx, hb, hml, hr, hts, hown, hlk, hnm, hK, hA, hRf, hRl, hRc, hRs⟩ := X
  intro t H locs cls cells slots hR hS hL hO h1 h2
  obtain ⟨ob, hO⟩ := List.forall_mem_cons.mp hO
  obtain ⟨oa, hO⟩ := List.forall_mem_cons.mp hO
  have k0 := ih t H locs cls cells slots hR hS hL (List.forall_mem_cons.mpr ⟨am_r32 _, hO⟩) h1 h2
  have ev : Int32.ofInt a ^^^ Int32.ofInt b = Int32.ofInt (i_xor a b) := (Int32.ofInt_toInt _).symm
  have e2 : am_cv (ad0 ++ t) (.inl (i_xor a b)) = .int (Int32.ofInt a ^^^ Int32.ofInt b) := congrArg Value.int ev.symm
  rw [List.map_cons, e2] at k0
  exact lv_ixor hx hb hd k0
theorem am_t_ishl (X : am_cx p R s m args meth c D cl cs A C3 C4 nw Ts cc mL ret y d mc ms) {a b : Int} (hd : decode cc pc = .ok (.ishl, 1)) (ih : am_G p l e R s m args below meth c D cl ft cs A ad0 mL rt mc ms r h' (pc + 1) ls (.inl (i_shl a b) :: st) h cb sb) : am_G p l e R s m args below meth c D cl ft cs A ad0 mL rt mc ms r h' pc ls (.inl b :: .inl a :: st) h cb sb := by
  obtain ⟨hx, hb, hml, hr, hts, hown, hlk, hnm, hK, hA, hRf, hRl, hRc, hRs⟩ := X
  intro t H locs cls cells slots hR hS hL hO h1 h2
  obtain ⟨ob, hO⟩ := List.forall_mem_cons.mp hO
  obtain ⟨oa, hO⟩ := List.forall_mem_cons.mp hO
  have k0 := ih t H locs cls cells slots hR hS hL (List.forall_mem_cons.mpr ⟨am_r32 _, hO⟩) h1 h2
  have ev : Int32.ofInt a <<< (Int32.ofInt b &&& 31) = Int32.ofInt (i_shl a b) := (Int32.ofInt_toInt _).symm
  have e2 : am_cv (ad0 ++ t) (.inl (i_shl a b)) = .int (Int32.ofInt a <<< (Int32.ofInt b &&& 31)) := congrArg Value.int ev.symm
  rw [List.map_cons, e2] at k0
  exact lv_ishl hx hb hd k0
theorem am_t_ishr (X : am_cx p R s m args meth c D cl cs A C3 C4 nw Ts cc mL ret y d mc ms) {a b : Int} (hd : decode cc pc = .ok (.ishr, 1)) (ih : am_G p l e R s m args below meth c D cl ft cs A ad0 mL rt mc ms r h' (pc + 1) ls (.inl (i_shr a b) :: st) h cb sb) : am_G p l e R s m args below meth c D cl ft cs A ad0 mL rt mc ms r h' pc ls (.inl b :: .inl a :: st) h cb sb := by
  obtain ⟨hx, hb, hml, hr, hts, hown, hlk, hnm, hK, hA, hRf, hRl, hRc, hRs⟩ := X
  intro t H locs cls cells slots hR hS hL hO h1 h2
  obtain ⟨ob, hO⟩ := List.forall_mem_cons.mp hO
  obtain ⟨oa, hO⟩ := List.forall_mem_cons.mp hO
  have k0 := ih t H locs cls cells slots hR hS hL (List.forall_mem_cons.mpr ⟨am_r32 _, hO⟩) h1 h2
  have ev : Int32.ofInt a >>> (Int32.ofInt b &&& 31) = Int32.ofInt (i_shr a b) := (Int32.ofInt_toInt _).symm
  have e2 : am_cv (ad0 ++ t) (.inl (i_shr a b)) = .int (Int32.ofInt a >>> (Int32.ofInt b &&& 31)) := congrArg Value.int ev.symm
  rw [List.map_cons, e2] at k0
  exact lv_ishr hx hb hd k0
theorem am_t_idiv (X : am_cx p R s m args meth c D cl cs A C3 C4 nw Ts cc mL ret y d mc ms) {a b : Int} (hd : decode cc pc = .ok (.idiv, 1)) (hne : ¬ b = 0) (ih : am_G p l e R s m args below meth c D cl ft cs A ad0 mL rt mc ms r h' (pc + 1) ls (.inl (w32 (Int.tdiv a b)) :: st) h cb sb) : am_G p l e R s m args below meth c D cl ft cs A ad0 mL rt mc ms r h' pc ls (.inl b :: .inl a :: st) h cb sb := by
  obtain ⟨hx, hb, hml, hr, hts, hown, hlk, hnm, hK, hA, hRf, hRl, hRc, hRs⟩ := X
  intro t H locs cls cells slots hR hS hL hO h1 h2
  obtain ⟨ob, hO⟩ := List.forall_mem_cons.mp hO
  obtain ⟨oa, hO⟩ := List.forall_mem_cons.mp hO
  have k0 := ih t H locs cls cells slots hR hS hL (List.forall_mem_cons.mpr ⟨w32_rng _, hO⟩) h1 h2
  have ev : Int32.ofInt a / Int32.ofInt b = Int32.ofInt (w32 (Int.tdiv a b)) := am_div32 oa ob
  have e2 : am_cv (ad0 ++ t) (.inl (w32 (Int.tdiv a b))) = .int (Int32.ofInt a / Int32.ofInt b) := congrArg Value.int ev.symm
  rw [List.map_cons, e2] at k0
  exact lv_idiv hx hb hd (fun z => hne ((am_eq32 ob am_0).mp z)) k0
theorem am_t_irem (X : am_cx p R s m args meth c D cl cs A C3 C4 nw Ts cc mL ret y d mc ms) {a b : Int} (hd : decode cc pc = .ok (.irem, 1)) (hne : ¬ b = 0) (ih : am_G p l e R s m args below meth c D cl ft cs A ad0 mL rt mc ms r h' (pc + 1) ls (.inl (w32 (Int.tmod a b)) :: st) h cb sb) : am_G p l e R s m args below meth c D cl ft cs A ad0 mL rt mc ms r h' pc ls (.inl b :: .inl a :: st) h cb sb := by
  obtain ⟨hx, hb, hml, hr, hts, hown, hlk, hnm, hK, hA, hRf, hRl, hRc, hRs⟩ := X
  intro t H locs cls cells slots hR hS hL hO h1 h2
  obtain ⟨ob, hO⟩ := List.forall_mem_cons.mp hO
  obtain ⟨oa, hO⟩ := List.forall_mem_cons.mp hO
  have k0 := ih t H locs cls cells slots hR hS hL (List.forall_mem_cons.mpr ⟨w32_rng _, hO⟩) h1 h2
  have ev : Int32.ofInt a - Int32.ofInt a / Int32.ofInt b * Int32.ofInt b = Int32.ofInt (w32 (Int.tmod a b)) := am_rem32 oa ob
  have e2 : am_cv (ad0 ++ t) (.inl (w32 (Int.tmod a b))) = .int (Int32.ofInt a - Int32.ofInt a / Int32.ofInt b * Int32.ofInt b) := congrArg Value.int ev.symm
  rw [List.map_cons, e2] at k0
  exact lv_irem hx hb hd (fun z => hne ((am_eq32 ob am_0).mp z)) k0
theorem am_t_iushr (X : am_cx p R s m args meth c D cl cs A C3 C4 nw Ts cc mL ret y d mc ms) {a b : Int} (hd : decode cc pc = .ok (.iushr, 1)) (ih : am_G p l e R s m args below meth c D cl ft cs A ad0 mL rt mc ms r h' (pc + 1) ls (.inl (i_ushr a b) :: st) h cb sb) : am_G p l e R s m args below meth c D cl ft cs A ad0 mL rt mc ms r h' pc ls (.inl b :: .inl a :: st) h cb sb := by
  obtain ⟨hx, hb, hml, hr, hts, hown, hlk, hnm, hK, hA, hRf, hRl, hRc, hRs⟩ := X
  intro t H locs cls cells slots hR hS hL hO h1 h2
  obtain ⟨ob, hO⟩ := List.forall_mem_cons.mp hO
  obtain ⟨oa, hO⟩ := List.forall_mem_cons.mp hO
  exact lv_iushr hx hb hd (v := Int32.ofInt (i_ushr a b)) (Int32.ofInt_toInt _).symm (ih t H locs cls cells slots hR hS hL (List.forall_mem_cons.mpr ⟨am_r32 _, hO⟩) h1 h2)
theorem am_t_ladd (X : am_cx p R s m args meth c D cl cs A C3 C4 nw Ts cc mL ret y d mc ms) {a b : Int} (hd : decode cc pc = .ok (.ladd, 1)) (ih : am_G p l e R s m args below meth c D cl ft cs A ad0 mL rt mc ms r h' (pc + 1) ls (.inr (.inl (w64 (a + b))) :: st) h cb sb) : am_G p l e R s m args below meth c D cl ft cs A ad0 mL rt mc ms r h' pc ls (.inr (.inl b) :: .inr (.inl a) :: st) h cb sb := by
  obtain ⟨hx, hb, hml, hr, hts, hown, hlk, hnm, hK, hA, hRf, hRl, hRc, hRs⟩ := X
  intro t H locs cls cells slots hR hS hL hO h1 h2
  obtain ⟨ob, hO⟩ := List.forall_mem_cons.mp hO
  obtain ⟨oa, hO⟩ := List.forall_mem_cons.mp hO
  have k0 := ih t H locs cls cells slots hR hS hL (List.forall_mem_cons.mpr ⟨w64_rng _, hO⟩) h1 h2
  have ev : Int64.ofInt a + Int64.ofInt b = Int64.ofInt (w64 (a + b)) := by rw [am_of64, Int64.ofInt_add]
  have e2 : am_cv (ad0 ++ t) (.inr (.inl (w64 (a + b)))) = .long (Int64.ofInt a + Int64.ofInt b) := congrArg Value.long ev.symm
  rw [List.map_cons, e2] at k0
  exact lv_ladd hx hb hd k0
theorem am_t_lsub (X : am_cx p R s m args meth c D cl cs A C3 C4 nw Ts cc mL ret y d mc ms) {a b : Int} (hd : decode cc pc = .ok (.lsub, 1)) (ih : am_G p l e R s m args below meth c D cl ft cs A ad0 mL rt mc ms r h' (pc + 1) ls (.inr (.inl (w64 (a - b))) :: st) h cb sb) : am_G p l e R s m args below meth c D cl ft cs A ad0 mL rt mc ms r h' pc ls (.inr (.inl b) :: .inr (.inl a) :: st) h cb sb := by
  obtain ⟨hx, hb, hml, hr, hts, hown, hlk, hnm, hK, hA, hRf, hRl, hRc, hRs⟩ := X
  intro t H locs cls cells slots hR hS hL hO h1 h2
  obtain ⟨ob, hO⟩ := List.forall_mem_cons.mp hO
  obtain ⟨oa, hO⟩ := List.forall_mem_cons.mp hO
  have k0 := ih t H locs cls cells slots hR hS hL (List.forall_mem_cons.mpr ⟨w64_rng _, hO⟩) h1 h2
  have ev : Int64.ofInt a - Int64.ofInt b = Int64.ofInt (w64 (a - b)) := by rw [am_of64, Int64.ofInt_sub]
  have e2 : am_cv (ad0 ++ t) (.inr (.inl (w64 (a - b)))) = .long (Int64.ofInt a - Int64.ofInt b) := congrArg Value.long ev.symm
  rw [List.map_cons, e2] at k0
  exact lv_lsub hx hb hd k0
theorem am_t_lmul (X : am_cx p R s m args meth c D cl cs A C3 C4 nw Ts cc mL ret y d mc ms) {a b : Int} (hd : decode cc pc = .ok (.lmul, 1)) (ih : am_G p l e R s m args below meth c D cl ft cs A ad0 mL rt mc ms r h' (pc + 1) ls (.inr (.inl (w64 (a * b))) :: st) h cb sb) : am_G p l e R s m args below meth c D cl ft cs A ad0 mL rt mc ms r h' pc ls (.inr (.inl b) :: .inr (.inl a) :: st) h cb sb := by
  obtain ⟨hx, hb, hml, hr, hts, hown, hlk, hnm, hK, hA, hRf, hRl, hRc, hRs⟩ := X
  intro t H locs cls cells slots hR hS hL hO h1 h2
  obtain ⟨ob, hO⟩ := List.forall_mem_cons.mp hO
  obtain ⟨oa, hO⟩ := List.forall_mem_cons.mp hO
  have k0 := ih t H locs cls cells slots hR hS hL (List.forall_mem_cons.mpr ⟨w64_rng _, hO⟩) h1 h2
  have ev : Int64.ofInt a * Int64.ofInt b = Int64.ofInt (w64 (a * b)) := by rw [am_of64, Int64.ofInt_mul]
  have e2 : am_cv (ad0 ++ t) (.inr (.inl (w64 (a * b)))) = .long (Int64.ofInt a * Int64.ofInt b) := congrArg Value.long ev.symm
  rw [List.map_cons, e2] at k0
  exact lv_lmul hx hb hd k0
theorem am_t_land (X : am_cx p R s m args meth c D cl cs A C3 C4 nw Ts cc mL ret y d mc ms) {a b : Int} (hd : decode cc pc = .ok (.land, 1)) (ih : am_G p l e R s m args below meth c D cl ft cs A ad0 mL rt mc ms r h' (pc + 1) ls (.inr (.inl (l_and a b)) :: st) h cb sb) : am_G p l e R s m args below meth c D cl ft cs A ad0 mL rt mc ms r h' pc ls (.inr (.inl b) :: .inr (.inl a) :: st) h cb sb := by
  obtain ⟨hx, hb, hml, hr, hts, hown, hlk, hnm, hK, hA, hRf, hRl, hRc, hRs⟩ := X
  intro t H locs cls cells slots hR hS hL hO h1 h2
  obtain ⟨ob, hO⟩ := List.forall_mem_cons.mp hO
  obtain ⟨oa, hO⟩ := List.forall_mem_cons.mp hO
  have k0 := ih t H locs cls cells slots hR hS hL (List.forall_mem_cons.mpr ⟨am_r64 _, hO⟩) h1 h2
  have ev : Int64.ofInt a &&& Int64.ofInt b = Int64.ofInt (l_and a b) := (Int64.ofInt_toInt _).symm
  have e2 : am_cv (ad0 ++ t) (.inr (.inl (l_and a b))) = .long (Int64.ofInt a &&& Int64.ofInt b) := congrArg Value.long ev.symm
  rw [List.map_cons, e2] at k0
  exact lv_land hx hb hd k0
theorem am_t_lor (X : am_cx p R s m args meth c D cl cs A C3 C4 nw Ts cc mL ret y d mc ms) {a b : Int} (hd : decode cc pc = .ok (.lor, 1)) (ih : am_G p l e R s m args below meth c D cl ft cs A ad0 mL rt mc ms r h' (pc + 1) ls (.inr (.inl (l_or a b)) :: st) h cb sb) : am_G p l e R s m args below meth c D cl ft cs A ad0 mL rt mc ms r h' pc ls (.inr (.inl b) :: .inr (.inl a) :: st) h cb sb := by
  obtain ⟨hx, hb, hml, hr, hts, hown, hlk, hnm, hK, hA, hRf, hRl, hRc, hRs⟩ := X
  intro t H locs cls cells slots hR hS hL hO h1 h2
  obtain ⟨ob, hO⟩ := List.forall_mem_cons.mp hO
  obtain ⟨oa, hO⟩ := List.forall_mem_cons.mp hO
  have k0 := ih t H locs cls cells slots hR hS hL (List.forall_mem_cons.mpr ⟨am_r64 _, hO⟩) h1 h2
  have ev : Int64.ofInt a ||| Int64.ofInt b = Int64.ofInt (l_or a b) := (Int64.ofInt_toInt _).symm
  have e2 : am_cv (ad0 ++ t) (.inr (.inl (l_or a b))) = .long (Int64.ofInt a ||| Int64.ofInt b) := congrArg Value.long ev.symm
  rw [List.map_cons, e2] at k0
  exact lv_lor hx hb hd k0
theorem am_t_ldiv (X : am_cx p R s m args meth c D cl cs A C3 C4 nw Ts cc mL ret y d mc ms) {a b : Int} (hd : decode cc pc = .ok (.ldiv, 1)) (hne : ¬ b = 0) (ih : am_G p l e R s m args below meth c D cl ft cs A ad0 mL rt mc ms r h' (pc + 1) ls (.inr (.inl (w64 (Int.tdiv a b))) :: st) h cb sb) : am_G p l e R s m args below meth c D cl ft cs A ad0 mL rt mc ms r h' pc ls (.inr (.inl b) :: .inr (.inl a) :: st) h cb sb := by
  obtain ⟨hx, hb, hml, hr, hts, hown, hlk, hnm, hK, hA, hRf, hRl, hRc, hRs⟩ := X
  intro t H locs cls cells slots hR hS hL hO h1 h2
  obtain ⟨ob, hO⟩ := List.forall_mem_cons.mp hO
  obtain ⟨oa, hO⟩ := List.forall_mem_cons.mp hO
  have k0 := ih t H locs cls cells slots hR hS hL (List.forall_mem_cons.mpr ⟨w64_rng _, hO⟩) h1 h2
  have ev : Int64.ofInt a / Int64.ofInt b = Int64.ofInt (w64 (Int.tdiv a b)) := am_div64 oa ob
  have e2 : am_cv (ad0 ++ t) (.inr (.inl (w64 (Int.tdiv a b)))) = .long (Int64.ofInt a / Int64.ofInt b) := congrArg Value.long ev.symm
  rw [List.map_cons, e2] at k0
  exact lv_ldiv hx hb hd (fun z => hne ((am_eq64 ob (by unfold am_i64; omega)).mp z)) k0
theorem am_t_lrem (X : am_cx p R s m args meth c D cl cs A C3 C4 nw Ts cc mL ret y d mc ms) {a b : Int} (hd : decode cc pc = .ok (.lrem, 1)) (hne : ¬ b = 0) (ih : am_G p l e R s m args below meth c D cl ft cs A ad0 mL rt mc ms r h' (pc + 1) ls (.inr (.inl (w64 (Int.tmod a b))) :: st) h cb sb) : am_G p l e R s m args below meth c D cl ft cs A ad0 mL rt mc ms r h' pc ls (.inr (.inl b) :: .inr (.inl a) :: st) h cb sb := by
  obtain ⟨hx, hb, hml, hr, hts, hown, hlk, hnm, hK, hA, hRf, hRl, hRc, hRs⟩ := X
  intro t H locs cls cells slots hR hS hL hO h1 h2
  obtain ⟨ob, hO⟩ := List.forall_mem_cons.mp hO
  obtain ⟨oa, hO⟩ := List.forall_mem_cons.mp hO
  have k0 := ih t H locs cls cells slots hR hS hL (List.forall_mem_cons.mpr ⟨w64_rng _, hO⟩) h1 h2
  have ev : Int64.ofInt a - Int64.ofInt a / Int64.ofInt b * Int64.ofInt b = Int64.ofInt (w64 (Int.tmod a b)) := am_rem64 oa ob
  have e2 : am_cv (ad0 ++ t) (.inr (.inl (w64 (Int.tmod a b)))) = .long (Int64.ofInt a - Int64.ofInt a / Int64.ofInt b * Int64.ofInt b) := congrArg Value.long ev.symm
  rw [List.map_cons, e2] at k0
  exact lv_lrem hx hb hd (fun z => hne ((am_eq64 ob (by unfold am_i64; omega)).mp z)) k0
theorem am_t_lshl (X : am_cx p R s m args meth c D cl cs A C3 C4 nw Ts cc mL ret y d mc ms) {a b : Int} (hd : decode cc pc = .ok (.lshl, 1)) (ih : am_G p l e R s m args below meth c D cl ft cs A ad0 mL rt mc ms r h' (pc + 1) ls (.inr (.inl (l_shl a b)) :: st) h cb sb) : am_G p l e R s m args below meth c D cl ft cs A ad0 mL rt mc ms r h' pc ls (.inl b :: .inr (.inl a) :: st) h cb sb := by
  obtain ⟨hx, hb, hml, hr, hts, hown, hlk, hnm, hK, hA, hRf, hRl, hRc, hRs⟩ := X
  intro t H locs cls cells slots hR hS hL hO h1 h2
  obtain ⟨ob, hO⟩ := List.forall_mem_cons.mp hO
  obtain ⟨oa, hO⟩ := List.forall_mem_cons.mp hO
  exact lv_lshl hx hb hd (v := Int64.ofInt (l_shl a b)) (Int64.ofInt_toInt _).symm (ih t H locs cls cells slots hR hS hL (List.forall_mem_cons.mpr ⟨am_r64 _, hO⟩) h1 h2)
theorem am_t_lushr (X : am_cx p R s m args meth c D cl cs A C3 C4 nw Ts cc mL ret y d mc ms) {a b : Int} (hd : decode cc pc = .ok (.lushr, 1)) (ih : am_G p l e R s m args below meth c D cl ft cs A ad0 mL rt mc ms r h' (pc + 1) ls (.inr (.inl (l_ushr a b)) :: st) h cb sb) : am_G p l e R s m args below meth c D cl ft cs A ad0 mL rt mc ms r h' pc ls (.inl b :: .inr (.inl a) :: st) h cb sb := by
  obtain ⟨hx, hb, hml, hr, hts, hown, hlk, hnm, hK, hA, hRf, hRl, hRc, hRs⟩ := X
  intro t H locs cls cells slots hR hS hL hO h1 h2
  obtain ⟨ob, hO⟩ := List.forall_mem_cons.mp hO
  obtain ⟨oa, hO⟩ := List.forall_mem_cons.mp hO
  exact lv_lushr hx hb hd (v := Int64.ofInt (l_ushr a b)) (Int64.ofInt_toInt _).symm (ih t H locs cls cells slots hR hS hL (List.forall_mem_cons.mpr ⟨am_r64 _, hO⟩) h1 h2)
theorem am_t_lcmp (X : am_cx p R s m args meth c D cl cs A C3 C4 nw Ts cc mL ret y d mc ms) {a b : Int} (hd : decode cc pc = .ok (.lcmp, 1)) (ih : am_G p l e R s m args below meth c D cl ft cs A ad0 mL rt mc ms r h' (pc + 1) ls (.inl (l_cmp a b) :: st) h cb sb) : am_G p l e R s m args below meth c D cl ft cs A ad0 mL rt mc ms r h' pc ls (.inr (.inl b) :: .inr (.inl a) :: st) h cb sb := by
  obtain ⟨hx, hb, hml, hr, hts, hown, hlk, hnm, hK, hA, hRf, hRl, hRc, hRs⟩ := X
  intro t H locs cls cells slots hR hS hL hO h1 h2
  obtain ⟨ob, hO⟩ := List.forall_mem_cons.mp hO
  obtain ⟨oa, hO⟩ := List.forall_mem_cons.mp hO
  have k0 := ih t H locs cls cells slots hR hS hL (List.forall_mem_cons.mpr ⟨(by show am_i32 (l_cmp a b); unfold l_cmp am_i32; split <;> (try split) <;> omega), hO⟩) h1 h2
  have e2 : am_cv (ad0 ++ t) (.inl (l_cmp a b)) = .int (lg_cmp (Int64.ofInt a) (Int64.ofInt b)) := congrArg Value.int (am_cmp oa ob).symm
  rw [List.map_cons, e2] at k0
  exact W.lcmp hx hb hd k0
theorem am_t_i2l (X : am_cx p R s m args meth c D cl cs A C3 C4 nw Ts cc mL ret y d mc ms) {a : Int} (hd : decode cc pc = .ok (.i2l, 1)) (ih : am_G p l e R s m args below meth c D cl ft cs A ad0 mL rt mc ms r h' (pc + 1) ls (.inr (.inl a) :: st) h cb sb) : am_G p l e R s m args below meth c D cl ft cs A ad0 mL rt mc ms r h' pc ls (.inl a :: st) h cb sb := by
  obtain ⟨hx, hb, hml, hr, hts, hown, hlk, hnm, hK, hA, hRf, hRl, hRc, hRs⟩ := X
  intro t H locs cls cells slots hR hS hL hO h1 h2
  obtain ⟨oa, hO⟩ := List.forall_mem_cons.mp hO
  exact lv_i2l hx hb hd (am_i2l oa) (ih t H locs cls cells slots hR hS hL (List.forall_mem_cons.mpr ⟨(by have q : am_i32 a := oa; unfold am_i32 at q; show am_i64 a; unfold am_i64; omega), hO⟩) h1 h2)
theorem am_t_l2i (X : am_cx p R s m args meth c D cl cs A C3 C4 nw Ts cc mL ret y d mc ms) {a : Int} (hd : decode cc pc = .ok (.l2i, 1)) (ih : am_G p l e R s m args below meth c D cl ft cs A ad0 mL rt mc ms r h' (pc + 1) ls (.inl (w32 a) :: st) h cb sb) : am_G p l e R s m args below meth c D cl ft cs A ad0 mL rt mc ms r h' pc ls (.inr (.inl a) :: st) h cb sb := by
  obtain ⟨hx, hb, hml, hr, hts, hown, hlk, hnm, hK, hA, hRf, hRl, hRc, hRs⟩ := X
  intro t H locs cls cells slots hR hS hL hO h1 h2
  obtain ⟨oa, hO⟩ := List.forall_mem_cons.mp hO
  exact lv_l2i hx hb hd (am_l2i a) (ih t H locs cls cells slots hR hS hL (List.forall_mem_cons.mpr ⟨w32_rng _, hO⟩) h1 h2)
theorem am_t_i2b (X : am_cx p R s m args meth c D cl cs A C3 C4 nw Ts cc mL ret y d mc ms) {a : Int} (hd : decode cc pc = .ok (.i2b, 1)) (ih : am_G p l e R s m args below meth c D cl ft cs A ad0 mL rt mc ms r h' (pc + 1) ls (.inl (w8 a) :: st) h cb sb) : am_G p l e R s m args below meth c D cl ft cs A ad0 mL rt mc ms r h' pc ls (.inl a :: st) h cb sb := by
  obtain ⟨hx, hb, hml, hr, hts, hown, hlk, hnm, hK, hA, hRf, hRl, hRc, hRs⟩ := X
  intro t H locs cls cells slots hR hS hL hO h1 h2
  obtain ⟨oa, hO⟩ := List.forall_mem_cons.mp hO
  exact lv_i2b hx hb hd (am_i2b a) (ih t H locs cls cells slots hR hS hL (List.forall_mem_cons.mpr ⟨(by have := w8_rng a; show am_i32 (w8 a); unfold am_i32; omega), hO⟩) h1 h2)
theorem am_t_dup (X : am_cx p R s m args meth c D cl cs A C3 C4 nw Ts cc mL ret y d mc ms) {v : am_v} (hc : am_cat v = 1) (hd : decode cc pc = .ok (.dup, 1)) (ih : am_G p l e R s m args below meth c D cl ft cs A ad0 mL rt mc ms r h' (pc + 1) ls (v :: v :: st) h cb sb) : am_G p l e R s m args below meth c D cl ft cs A ad0 mL rt mc ms r h' pc ls (v :: st) h cb sb := by
  obtain ⟨hx, hb, hml, hr, hts, hown, hlk, hnm, hK, hA, hRf, hRl, hRc, hRs⟩ := X
  intro t H locs cls cells slots hR hS hL hO h1 h2
  obtain ⟨oa, hO⟩ := List.forall_mem_cons.mp hO
  exact lv_dup hx hb hd (by rw [am_cat_cv]; exact hc) (ih t H locs cls cells slots hR hS hL (List.forall_mem_cons.mpr ⟨oa, List.forall_mem_cons.mpr ⟨oa, hO⟩⟩) h1 h2)
theorem am_t_dup2 (X : am_cx p R s m args meth c D cl cs A C3 C4 nw Ts cc mL ret y d mc ms) {v u : am_v} (hc : am_cat v = 1) (hc2 : am_cat u = 1) (hd : decode cc pc = .ok (.dup2, 1)) (ih : am_G p l e R s m args below meth c D cl ft cs A ad0 mL rt mc ms r h' (pc + 1) ls (v :: u :: v :: u :: st) h cb sb) : am_G p l e R s m args below meth c D cl ft cs A ad0 mL rt mc ms r h' pc ls (v :: u :: st) h cb sb := by
  obtain ⟨hx, hb, hml, hr, hts, hown, hlk, hnm, hK, hA, hRf, hRl, hRc, hRs⟩ := X
  intro t H locs cls cells slots hR hS hL hO h1 h2
  obtain ⟨oa, hO⟩ := List.forall_mem_cons.mp hO
  obtain ⟨ob, hO⟩ := List.forall_mem_cons.mp hO
  exact lv_dup2_11 hx hb hd (by rw [am_cat_cv]; exact hc) (by rw [am_cat_cv]; exact hc2) (ih t H locs cls cells slots hR hS hL (List.forall_mem_cons.mpr ⟨oa, List.forall_mem_cons.mpr ⟨ob, List.forall_mem_cons.mpr ⟨oa, List.forall_mem_cons.mpr ⟨ob, hO⟩⟩⟩⟩) h1 h2)
theorem am_t_goto (X : am_cx p R s m args meth c D cl cs A C3 C4 nw Ts cc mL ret y d mc ms) {off : Int} {x1 : Nat} (hd : decode cc pc = .ok (.goto off, 3)) (ht : (pc : Int) + off = (x1 : Int)) (ih : am_G p l e R s m args below meth c D cl ft cs A ad0 mL rt mc ms r h' x1 ls st h cb sb) : am_G p l e R s m args below meth c D cl ft cs A ad0 mL rt mc ms r h' pc ls st h cb sb := by
  obtain ⟨hx, hb, hml, hr, hts, hown, hlk, hnm, hK, hA, hRf, hRl, hRc, hRs⟩ := X
  intro t H locs cls cells slots hR hS hL hO h1 h2
  exact lv_goto hx hb hd ht (ih t H locs cls cells slots hR hS hL hO h1 h2)
theorem am_t_if_eq (X : am_cx p R s m args meth c D cl cs A C3 C4 nw Ts cc mL ret y d mc ms) {a off : Int} {x1 : Nat} (hd : decode cc pc = .ok (.ifCond .eq off, 3)) (ht : (pc : Int) + off = (x1 : Int)) (it : a = 0 → am_G p l e R s m args below meth c D cl ft cs A ad0 mL rt mc ms r h' x1 ls st h cb sb) (jf : ¬ (a = 0) → am_G p l e R s m args below meth c D cl ft cs A ad0 mL rt mc ms r h' (pc + 3) ls st h cb sb) : am_G p l e R s m args below meth c D cl ft cs A ad0 mL rt mc ms r h' pc ls (.inl a :: st) h cb sb := by
  obtain ⟨hx, hb, hml, hr, hts, hown, hlk, hnm, hK, hA, hRf, hRl, hRc, hRs⟩ := X
  intro t H locs cls cells slots hR hS hL hO h1 h2
  obtain ⟨oa, hO⟩ := List.forall_mem_cons.mp hO
  exact lv_if_eq hx hb hd ht (fun q => it ((am_eq32 oa am_0).mp q) t H locs cls cells slots hR hS hL hO h1 h2) (fun q => jf (fun z => q ((am_eq32 oa am_0).mpr z)) t H locs cls cells slots hR hS hL hO h1 h2)
theorem am_t_icmp_eq (X : am_cx p R s m args meth c D cl cs A C3 C4 nw Ts cc mL ret y d mc ms) {a b off : Int} {x1 : Nat} (hd : decode cc pc = .ok (.if_icmp .eq off, 3)) (ht : (pc : Int) + off = (x1 : Int)) (it : a = b → am_G p l e R s m args below meth c D cl ft cs A ad0 mL rt mc ms r h' x1 ls st h cb sb) (jf : ¬ (a = b) → am_G p l e R s m args below meth c D cl ft cs A ad0 mL rt mc ms r h' (pc + 3) ls st h cb sb) : am_G p l e R s m args below meth c D cl ft cs A ad0 mL rt mc ms r h' pc ls (.inl b :: .inl a :: st) h cb sb := by
  obtain ⟨hx, hb, hml, hr, hts, hown, hlk, hnm, hK, hA, hRf, hRl, hRc, hRs⟩ := X
  intro t H locs cls cells slots hR hS hL hO h1 h2
  obtain ⟨ob, hO⟩ := List.forall_mem_cons.mp hO
  obtain ⟨oa, hO⟩ := List.forall_mem_cons.mp hO
  exact lv_icmp_eq hx hb hd ht (fun q => it ((am_eq32 oa ob).mp q) t H locs cls cells slots hR hS hL hO h1 h2) (fun q => jf (fun z => q ((am_eq32 oa ob).mpr z)) t H locs cls cells slots hR hS hL hO h1 h2)
theorem am_t_if_ne (X : am_cx p R s m args meth c D cl cs A C3 C4 nw Ts cc mL ret y d mc ms) {a off : Int} {x1 : Nat} (hd : decode cc pc = .ok (.ifCond .ne off, 3)) (ht : (pc : Int) + off = (x1 : Int)) (it : ¬ (a = 0) → am_G p l e R s m args below meth c D cl ft cs A ad0 mL rt mc ms r h' x1 ls st h cb sb) (jf : a = 0 → am_G p l e R s m args below meth c D cl ft cs A ad0 mL rt mc ms r h' (pc + 3) ls st h cb sb) : am_G p l e R s m args below meth c D cl ft cs A ad0 mL rt mc ms r h' pc ls (.inl a :: st) h cb sb := by
  obtain ⟨hx, hb, hml, hr, hts, hown, hlk, hnm, hK, hA, hRf, hRl, hRc, hRs⟩ := X
  intro t H locs cls cells slots hR hS hL hO h1 h2
  obtain ⟨oa, hO⟩ := List.forall_mem_cons.mp hO
  exact lv_if_ne hx hb hd ht (fun q => it (fun z => q ((am_eq32 oa am_0).mpr z)) t H locs cls cells slots hR hS hL hO h1 h2) (fun q => jf ((am_eq32 oa am_0).mp q) t H locs cls cells slots hR hS hL hO h1 h2)
theorem am_t_icmp_ne (X : am_cx p R s m args meth c D cl cs A C3 C4 nw Ts cc mL ret y d mc ms) {a b off : Int} {x1 : Nat} (hd : decode cc pc = .ok (.if_icmp .ne off, 3)) (ht : (pc : Int) + off = (x1 : Int)) (it : ¬ (a = b) → am_G p l e R s m args below meth c D cl ft cs A ad0 mL rt mc ms r h' x1 ls st h cb sb) (jf : a = b → am_G p l e R s m args below meth c D cl ft cs A ad0 mL rt mc ms r h' (pc + 3) ls st h cb sb) : am_G p l e R s m args below meth c D cl ft cs A ad0 mL rt mc ms r h' pc ls (.inl b :: .inl a :: st) h cb sb := by
  obtain ⟨hx, hb, hml, hr, hts, hown, hlk, hnm, hK, hA, hRf, hRl, hRc, hRs⟩ := X
  intro t H locs cls cells slots hR hS hL hO h1 h2
  obtain ⟨ob, hO⟩ := List.forall_mem_cons.mp hO
  obtain ⟨oa, hO⟩ := List.forall_mem_cons.mp hO
  exact lv_icmp_ne hx hb hd ht (fun q => it (fun z => q ((am_eq32 oa ob).mpr z)) t H locs cls cells slots hR hS hL hO h1 h2) (fun q => jf ((am_eq32 oa ob).mp q) t H locs cls cells slots hR hS hL hO h1 h2)
theorem am_t_if_lt (X : am_cx p R s m args meth c D cl cs A C3 C4 nw Ts cc mL ret y d mc ms) {a off : Int} {x1 : Nat} (hd : decode cc pc = .ok (.ifCond .lt off, 3)) (ht : (pc : Int) + off = (x1 : Int)) (it : a < 0 → am_G p l e R s m args below meth c D cl ft cs A ad0 mL rt mc ms r h' x1 ls st h cb sb) (jf : ¬ (a < 0) → am_G p l e R s m args below meth c D cl ft cs A ad0 mL rt mc ms r h' (pc + 3) ls st h cb sb) : am_G p l e R s m args below meth c D cl ft cs A ad0 mL rt mc ms r h' pc ls (.inl a :: st) h cb sb := by
  obtain ⟨hx, hb, hml, hr, hts, hown, hlk, hnm, hK, hA, hRf, hRl, hRc, hRs⟩ := X
  intro t H locs cls cells slots hR hS hL hO h1 h2
  obtain ⟨oa, hO⟩ := List.forall_mem_cons.mp hO
  exact lv_if_lt hx hb hd ht (fun q => it ((am_lt32 oa am_0).mp q) t H locs cls cells slots hR hS hL hO h1 h2) (fun q => jf (fun z => q ((am_lt32 oa am_0).mpr z)) t H locs cls cells slots hR hS hL hO h1 h2)
theorem am_t_icmp_lt (X : am_cx p R s m args meth c D cl cs A C3 C4 nw Ts cc mL ret y d mc ms) {a b off : Int} {x1 : Nat} (hd : decode cc pc = .ok (.if_icmp .lt off, 3)) (ht : (pc : Int) + off = (x1 : Int)) (it : a < b → am_G p l e R s m args below meth c D cl ft cs A ad0 mL rt mc ms r h' x1 ls st h cb sb) (jf : ¬ (a < b) → am_G p l e R s m args below meth c D cl ft cs A ad0 mL rt mc ms r h' (pc + 3) ls st h cb sb) : am_G p l e R s m args below meth c D cl ft cs A ad0 mL rt mc ms r h' pc ls (.inl b :: .inl a :: st) h cb sb := by
  obtain ⟨hx, hb, hml, hr, hts, hown, hlk, hnm, hK, hA, hRf, hRl, hRc, hRs⟩ := X
  intro t H locs cls cells slots hR hS hL hO h1 h2
  obtain ⟨ob, hO⟩ := List.forall_mem_cons.mp hO
  obtain ⟨oa, hO⟩ := List.forall_mem_cons.mp hO
  exact lv_icmp_lt hx hb hd ht (fun q => it ((am_lt32 oa ob).mp q) t H locs cls cells slots hR hS hL hO h1 h2) (fun q => jf (fun z => q ((am_lt32 oa ob).mpr z)) t H locs cls cells slots hR hS hL hO h1 h2)
theorem am_t_if_ge (X : am_cx p R s m args meth c D cl cs A C3 C4 nw Ts cc mL ret y d mc ms) {a off : Int} {x1 : Nat} (hd : decode cc pc = .ok (.ifCond .ge off, 3)) (ht : (pc : Int) + off = (x1 : Int)) (it : ¬ (a < 0) → am_G p l e R s m args below meth c D cl ft cs A ad0 mL rt mc ms r h' x1 ls st h cb sb) (jf : a < 0 → am_G p l e R s m args below meth c D cl ft cs A ad0 mL rt mc ms r h' (pc + 3) ls st h cb sb) : am_G p l e R s m args below meth c D cl ft cs A ad0 mL rt mc ms r h' pc ls (.inl a :: st) h cb sb := by
  obtain ⟨hx, hb, hml, hr, hts, hown, hlk, hnm, hK, hA, hRf, hRl, hRc, hRs⟩ := X
  intro t H locs cls cells slots hR hS hL hO h1 h2
  obtain ⟨oa, hO⟩ := List.forall_mem_cons.mp hO
  exact lv_if_ge hx hb hd ht (fun q => it (fun z => absurd ((am_lt32 oa am_0).mpr z) (Int32.not_lt.mpr q)) t H locs cls cells slots hR hS hL hO h1 h2) (fun q => jf ((am_lt32 oa am_0).mp (Int32.not_le.mp q)) t H locs cls cells slots hR hS hL hO h1 h2)
theorem am_t_icmp_ge (X : am_cx p R s m args meth c D cl cs A C3 C4 nw Ts cc mL ret y d mc ms) {a b off : Int} {x1 : Nat} (hd : decode cc pc = .ok (.if_icmp .ge off, 3)) (ht : (pc : Int) + off = (x1 : Int)) (it : ¬ (a < b) → am_G p l e R s m args below meth c D cl ft cs A ad0 mL rt mc ms r h' x1 ls st h cb sb) (jf : a < b → am_G p l e R s m args below meth c D cl ft cs A ad0 mL rt mc ms r h' (pc + 3) ls st h cb sb) : am_G p l e R s m args below meth c D cl ft cs A ad0 mL rt mc ms r h' pc ls (.inl b :: .inl a :: st) h cb sb := by
  obtain ⟨hx, hb, hml, hr, hts, hown, hlk, hnm, hK, hA, hRf, hRl, hRc, hRs⟩ := X
  intro t H locs cls cells slots hR hS hL hO h1 h2
  obtain ⟨ob, hO⟩ := List.forall_mem_cons.mp hO
  obtain ⟨oa, hO⟩ := List.forall_mem_cons.mp hO
  exact lv_icmp_ge hx hb hd ht (fun q => it (fun z => absurd ((am_lt32 oa ob).mpr z) (Int32.not_lt.mpr q)) t H locs cls cells slots hR hS hL hO h1 h2) (fun q => jf ((am_lt32 oa ob).mp (Int32.not_le.mp q)) t H locs cls cells slots hR hS hL hO h1 h2)
theorem am_t_if_gt (X : am_cx p R s m args meth c D cl cs A C3 C4 nw Ts cc mL ret y d mc ms) {a off : Int} {x1 : Nat} (hd : decode cc pc = .ok (.ifCond .gt off, 3)) (ht : (pc : Int) + off = (x1 : Int)) (it : 0 < a → am_G p l e R s m args below meth c D cl ft cs A ad0 mL rt mc ms r h' x1 ls st h cb sb) (jf : ¬ (0 < a) → am_G p l e R s m args below meth c D cl ft cs A ad0 mL rt mc ms r h' (pc + 3) ls st h cb sb) : am_G p l e R s m args below meth c D cl ft cs A ad0 mL rt mc ms r h' pc ls (.inl a :: st) h cb sb := by
  obtain ⟨hx, hb, hml, hr, hts, hown, hlk, hnm, hK, hA, hRf, hRl, hRc, hRs⟩ := X
  intro t H locs cls cells slots hR hS hL hO h1 h2
  obtain ⟨oa, hO⟩ := List.forall_mem_cons.mp hO
  exact lv_if_gt hx hb hd ht (fun q => it ((am_lt32 am_0 oa).mp q) t H locs cls cells slots hR hS hL hO h1 h2) (fun q => jf (fun z => q ((am_lt32 am_0 oa).mpr z)) t H locs cls cells slots hR hS hL hO h1 h2)
theorem am_t_icmp_gt (X : am_cx p R s m args meth c D cl cs A C3 C4 nw Ts cc mL ret y d mc ms) {a b off : Int} {x1 : Nat} (hd : decode cc pc = .ok (.if_icmp .gt off, 3)) (ht : (pc : Int) + off = (x1 : Int)) (it : b < a → am_G p l e R s m args below meth c D cl ft cs A ad0 mL rt mc ms r h' x1 ls st h cb sb) (jf : ¬ (b < a) → am_G p l e R s m args below meth c D cl ft cs A ad0 mL rt mc ms r h' (pc + 3) ls st h cb sb) : am_G p l e R s m args below meth c D cl ft cs A ad0 mL rt mc ms r h' pc ls (.inl b :: .inl a :: st) h cb sb := by
  obtain ⟨hx, hb, hml, hr, hts, hown, hlk, hnm, hK, hA, hRf, hRl, hRc, hRs⟩ := X
  intro t H locs cls cells slots hR hS hL hO h1 h2
  obtain ⟨ob, hO⟩ := List.forall_mem_cons.mp hO
  obtain ⟨oa, hO⟩ := List.forall_mem_cons.mp hO
  exact lv_icmp_gt hx hb hd ht (fun q => it ((am_lt32 ob oa).mp q) t H locs cls cells slots hR hS hL hO h1 h2) (fun q => jf (fun z => q ((am_lt32 ob oa).mpr z)) t H locs cls cells slots hR hS hL hO h1 h2)
theorem am_t_if_le (X : am_cx p R s m args meth c D cl cs A C3 C4 nw Ts cc mL ret y d mc ms) {a off : Int} {x1 : Nat} (hd : decode cc pc = .ok (.ifCond .le off, 3)) (ht : (pc : Int) + off = (x1 : Int)) (it : ¬ (0 < a) → am_G p l e R s m args below meth c D cl ft cs A ad0 mL rt mc ms r h' x1 ls st h cb sb) (jf : 0 < a → am_G p l e R s m args below meth c D cl ft cs A ad0 mL rt mc ms r h' (pc + 3) ls st h cb sb) : am_G p l e R s m args below meth c D cl ft cs A ad0 mL rt mc ms r h' pc ls (.inl a :: st) h cb sb := by
  obtain ⟨hx, hb, hml, hr, hts, hown, hlk, hnm, hK, hA, hRf, hRl, hRc, hRs⟩ := X
  intro t H locs cls cells slots hR hS hL hO h1 h2
  obtain ⟨oa, hO⟩ := List.forall_mem_cons.mp hO
  exact lv_if_le hx hb hd ht (fun q => it (fun z => absurd ((am_lt32 am_0 oa).mpr z) (Int32.not_lt.mpr q)) t H locs cls cells slots hR hS hL hO h1 h2) (fun q => jf ((am_lt32 am_0 oa).mp (Int32.not_le.mp q)) t H locs cls cells slots hR hS hL hO h1 h2)
theorem am_t_icmp_le (X : am_cx p R s m args meth c D cl cs A C3 C4 nw Ts cc mL ret y d mc ms) {a b off : Int} {x1 : Nat} (hd : decode cc pc = .ok (.if_icmp .le off, 3)) (ht : (pc : Int) + off = (x1 : Int)) (it : ¬ (b < a) → am_G p l e R s m args below meth c D cl ft cs A ad0 mL rt mc ms r h' x1 ls st h cb sb) (jf : b < a → am_G p l e R s m args below meth c D cl ft cs A ad0 mL rt mc ms r h' (pc + 3) ls st h cb sb) : am_G p l e R s m args below meth c D cl ft cs A ad0 mL rt mc ms r h' pc ls (.inl b :: .inl a :: st) h cb sb := by
  obtain ⟨hx, hb, hml, hr, hts, hown, hlk, hnm, hK, hA, hRf, hRl, hRc, hRs⟩ := X
  intro t H locs cls cells slots hR hS hL hO h1 h2
  obtain ⟨ob, hO⟩ := List.forall_mem_cons.mp hO
  obtain ⟨oa, hO⟩ := List.forall_mem_cons.mp hO
  exact lv_icmp_le hx hb hd ht (fun q => it (fun z => absurd ((am_lt32 ob oa).mpr z) (Int32.not_lt.mpr q)) t H locs cls cells slots hR hS hL hO h1 h2) (fun q => jf ((am_lt32 ob oa).mp (Int32.not_le.mp q)) t H locs cls cells slots hR hS hL hO h1 h2)
end AM7
end
section
def am_tyOK (t : Nat) (ty : FieldType) : Prop := match t with
  | 0 => ty = .int
  | 1 => ty = .long
  | 2 => (∃ C, ty = .object C) ∨ ∃ u, ty = .array u
  | 3 => ty = .boolean
  | _ => False
def am_clOK (Ts : List Cond) (cl : List vw_C) (ft : Nat → List Nat) : Prop := ∀ (ci : Nat) (C : String) (T : u_T) (N : Nat), cl[ci]? = some (C, T, N) → (∀ w ∈ u_ws C T N, w ∈ Ts) ∧ ∃ ty0 : Nat → FieldType, (∀ k, k < N → parseFieldDescriptor (T k).2.2.1 = some (ty0 k)) ∧ (∀ a, a < N → ∀ b, b < N → a ≠ b → (T a).2.1 ≠ (T b).2.1) ∧ (ft ci).length = N ∧ ∀ k t, (ft ci)[k]? = some t → am_tyOK t (ty0 k)
def am_pv (t : Nat) (x : Int) (r : Nat) : am_v := match t with
  | 1 => .inr (.inl x)
  | 2 => .inr (.inr r)
  | _ => .inl x
theorem am_pv_cv (ad : List Nat) (t : Nat) (x : Int) (r : Nat) : am_cv ad (am_pv t x r) = am_fv ad t x r := match t with
  | 0 => rfl
  | 1 => rfl
  | 2 => rfl
  | _ + 3 => rfl
theorem am_pv_ok {n t : Nat} {x : Int} {r : Nat} (h : am_tok n t x r) : am_ok n (am_pv t x r) := match t, h with
  | 0, h => h
  | 1, h => h
  | 2, h => h
  | 3, h => by
    have h : x = 0 ∨ x = 1 := h
    show am_i32 x
    unfold am_i32; omega
  | _ + 4, h => by
    have h : -128 ≤ x ∧ x < 128 := h
    show am_i32 x
    unfold am_i32; omega
theorem am_el_obj {ft : Nat → List Nat} {cs : Nat → ClassId} {ad : List Nat} {s : Nat × Nat} {f : Int → Int} {rf : Int → Nat} {ci : Nat} (hs : s.1 = ci + 5) : am_el ft cs ad s f rf = .inr (ci, am_fs ad f rf (ft ci) 0) := by
  obtain ⟨a, b⟩ := s
  have hs : a = ci + 5 := hs
  subst hs
  rfl
theorem am_ty_obj {ft : Nat → List Nat} {s : Nat × Nat} {ci k t : Nat} (hs : s.1 = ci + 5) (ht : (ft ci)[k]? = some t) : am_ty ft s (k : Int) = t := by
  obtain ⟨a, b⟩ := s
  have hs : a = ci + 5 := hs
  subst hs
  show (ft ci).getD ((k : Int)).toNat 2 = t
  rw [Int.toNat_natCast, List.getD_eq_getElem?_getD, ht]; rfl
theorem am_cM_up {ft : Nat → List Nat} {h : am_h} (hc : am_cM ft h) {q : Nat} {i : Int} {v : Int} (hv : am_tok h.1.1 (am_ty ft (h.1.2.1 q) i) v (h.1.2.2 q i)) : am_cM ft (h.1, am_up h.2 q i v) := by
  intro k hk j hj
  show am_tok h.1.1 (am_ty ft (h.1.2.1 k) j) (am_up h.2 q i v k j) (h.1.2.2 k j)
  by_cases e : k = q
  · subst e
    have e1 : am_up h.2 k i v k = fun j => if j = i then v else h.2 k j := by show (bif Nat.beq k k then _ else _) = _; rw [am_beq_t]; rfl
    rw [e1]
    by_cases e2 : j = i
    · subst e2
      show am_tok _ _ (if j = j then v else _) _
      rw [if_pos rfl]; exact hv
    · show am_tok _ _ (if j = i then v else _) _
      rw [if_neg e2]; exact hc k hk j hj
  · have e1 : am_up h.2 q i v k = h.2 k := by show (bif Nat.beq k q then _ else _) = _; rw [am_beq_f e]; rfl
    rw [e1]; exact hc k hk j hj
theorem am_cM_upr {ft : Nat → List Nat} {h : am_h} (hc : am_cM ft h) {q : Nat} {i : Int} {v : Nat} (hv : am_tok h.1.1 (am_ty ft (h.1.2.1 q) i) (h.2 q i) v) : am_cM ft ((h.1.1, h.1.2.1, am_up h.1.2.2 q i v), h.2) := by
  intro k hk j hj
  show am_tok h.1.1 (am_ty ft (h.1.2.1 k) j) (h.2 k j) (am_up h.1.2.2 q i v k j)
  by_cases e : k = q
  · subst e
    have e1 : am_up h.1.2.2 k i v k = fun j => if j = i then v else h.1.2.2 k j := by show (bif Nat.beq k k then _ else _) = _; rw [am_beq_t]; rfl
    rw [e1]
    by_cases e2 : j = i
    · subst e2
      show am_tok _ _ _ (if j = j then v else _)
      rw [if_pos rfl]; exact hv
    · show am_tok _ _ _ (if j = i then v else _)
      rw [if_neg e2]; exact hc k hk j hj
  · have e1 : am_up h.1.2.2 q i v k = h.1.2.2 k := by show (bif Nat.beq k q then _ else _) = _; rw [am_beq_f e]; rfl
    rw [e1]; exact hc k hk j hj
theorem am_up_self {β : Type} (M : Nat → Int → β) (k : Nat) (i : Int) (v : β) : am_up M k i v k = fun j => if j = i then v else M k j := by show (bif Nat.beq k k then _ else _) = _; rw [am_beq_t]; rfl
theorem am_up_ne {β : Type} (M : Nat → Int → β) {k a : Nat} (i : Int) (v : β) (h : a ≠ k) : am_up M k i v a = M a := by show (bif Nat.beq a k then _ else _) = _; rw [am_beq_f h]; rfl
section AM8
variable {p : Program} {l : Launch} {e : Env} {R : Room} {s : State} {m : MethodId} {args : Array Value} {below : List Frame} {meth : Method} {c : Code}
variable {D : va_G} {cl : List vw_C} {ft : Nat → List Nat} {cs : Nat → ClassId} {A : Nat → Prop} {C3 C4 : String} {nw : List (String × Nat × MethodName × String)} {Ts : List Cond} {cc : ByteArray} {ret : Option FieldType} {y : MethodName} {d : Nat}
variable {ad0 : List Nat} {mL rt mc ms : Nat} {r : Int} {h' : am_h} {pc : Nat} {ls : am_l} {st : List am_v} {h : am_h} {cb sb : Nat}
theorem am_t_get (X : am_cx p R s m args meth c D cl cs A C3 C4 nw Ts cc mL ret y d mc ms) (hC : am_clOK Ts cl ft) {ci k idx t0 : Nat} {C : String} {T : u_T} {N : Nat} (hc : cl[ci]? = some (C, T, N)) (hl : Cond.fieldLink y.cls idx (T k).1 (T k).2.1 (T k).2.2.1 ∈ Ts) (ht : (ft ci)[k]? = some t0) {q : Nat} (hq : q < h.1.1) (hs : (h.1.2.1 q).1 = ci + 5) (hd : decode cc pc = .ok (.getfield idx, 3)) (ih : am_G p l e R s m args below meth c D cl ft cs A ad0 mL rt mc ms r h' (pc + 3) ls (am_pv t0 (h.2 q (k : Int)) (h.1.2.2 q (k : Int)) :: st) h cb sb) : am_G p l e R s m args below meth c D cl ft cs A ad0 mL rt mc ms r h' pc ls (.inr (.inr (q + 1)) :: st) h cb sb := by
  obtain ⟨hx, hb, hml, hr, hts, hown, hlk, hnm, hK, hA, hRf, hRl, hRc, hRs⟩ := X
  intro t H locs cls cells slots hR hS hL hO h1 h2
  obtain ⟨hlen, hP, hD, hM⟩ := hR
  have ev : am_cv (ad0 ++ t) (.inr (.inr (q + 1))) = .ref ((ad0 ++ t).getD q 0) := by show va_rf _ = _; rw [am_rv_at (by rw [hlen]; omega)]; rfl
  obtain ⟨oa, hO⟩ := List.forall_mem_cons.mp hO
  obtain ⟨hin, ty0, hty, hnmq, hln, htk⟩ := hC ci C T N hc
  have hk : k < N := by rw [← hln]; exact (List.getElem?_eq_some_iff.mp ht).1
  have he := am_wl_get (ft := ft) (cs := cs) (ad := ad0 ++ t) hq
  rw [am_el_obj hs] at he
  have hv := am_fs_get (ad0 ++ t) (h.2 q) (h.1.2.2 q) (ft ci) 0 k t0 ht
  rw [Nat.zero_add] at hv
  have tk := hM q hq (k : Int) (by omega)
  rw [am_ty_obj hs ht] at tk
  have k0 := ih t H locs cls cells slots ⟨hlen, hP, hD, hM⟩ hS hL (List.forall_mem_cons.mpr ⟨am_pv_ok tk, hO⟩) h1 h2
  rw [List.map_cons, am_pv_cv] at k0
  rw [List.map_cons, ev]
  exact va_get hx hb hts hin hown hK.1 hP q he hc k hk (hts _ hl) (fun _ z => z) hv hd k0
theorem am_t_putI (X : am_cx p R s m args meth c D cl cs A C3 C4 nw Ts cc mL ret y d mc ms) (hC : am_clOK Ts cl ft) {ci k idx : Nat} {C : String} {T : u_T} {N : Nat} (hc : cl[ci]? = some (C, T, N)) (hl : Cond.fieldLink y.cls idx (T k).1 (T k).2.1 (T k).2.2.1 ∈ Ts) (ht : (ft ci)[k]? = some 0) (hf : (T k).2.2.2 = false) {q : Nat} {v : Int} (hq : q < h.1.1) (hs : (h.1.2.1 q).1 = ci + 5) (hd : decode cc pc = .ok (.putfield idx, 3)) (ih : am_G p l e R s m args below meth c D cl ft cs A ad0 mL rt mc ms r h' (pc + 3) ls st (h.1, am_up h.2 q (k : Int) v) cb sb) : am_G p l e R s m args below meth c D cl ft cs A ad0 mL rt mc ms r h' pc ls (.inl v :: .inr (.inr (q + 1)) :: st) h cb sb := by
  obtain ⟨hx, hb, hml, hr, hts, hown, hlk, hnm, hK, hA, hRf, hRl, hRc, hRs⟩ := X
  intro t H locs cls cells slots hR hS hL hO h1 h2
  obtain ⟨hlen, hP, hD, hM⟩ := hR
  have ev : am_cv (ad0 ++ t) (.inr (.inr (q + 1))) = .ref ((ad0 ++ t).getD q 0) := by show va_rf _ = _; rw [am_rv_at (by rw [hlen]; omega)]; rfl
  obtain ⟨ov, hO⟩ := List.forall_mem_cons.mp hO
  obtain ⟨oa, hO⟩ := List.forall_mem_cons.mp hO
  obtain ⟨hin, ty0, hty, hnmq, hln, htk⟩ := hC ci C T N hc
  have hk : k < N := by rw [← hln]; exact (List.getElem?_eq_some_iff.mp ht).1
  have tyk : ty0 k = .int := htk k 0 ht
  have hty2 : narrow (ty0 k) (.int (Int32.ofInt v)) = .int (Int32.ofInt v) ∧ fits (ty0 k) (.int (Int32.ofInt v)) = true := by rw [tyk]; exact ⟨rfl, rfl⟩
  have he := am_wl_get (ft := ft) (cs := cs) (ad := ad0 ++ t) hq
  rw [am_el_obj hs] at he
  rw [List.map_cons, List.map_cons, ev]
  refine va_put hx hb hts hin ty0 hty hnmq hown hK.1 hP hD hS q he hc k hk (hts _ hl) (fun _ z => z) hf (hty k hk) hty2.1 hty2.2 (by rw [am_fs_len, hln]; exact hk) hd (fun H1 locs1 hP1 hD1 hS1 => ?_)
  have ew := am_wl_set (ft := ft) (cs := cs) (ad := ad0 ++ t) (h := h) (h' := (h.1, am_up h.2 q (k : Int) v)) (k := q) (e := .inr (ci, (am_fs (ad0 ++ t) (h.2 q) (h.1.2.2 q) (ft ci) 0).set k (am_cv (ad0 ++ t) (.inl v)))) rfl (by show am_el ft cs (ad0 ++ t) (h.1.2.1 q) (am_up h.2 q (k : Int) v q) (h.1.2.2 q) = _; rw [am_up_self, am_el_obj hs, (am_fs_set (ad0 ++ t) (h.2 q) (fun j => if j = (k : Int) then v else h.2 q j) (h.1.2.2 q) (h.1.2.2 q) (ft ci) k 0 ht _ (by show am_fv _ 0 (if (k : Int) = (k : Int) then v else _) _ = _; rw [if_pos rfl]; rfl) (fun j hj => ⟨if_neg (by omega), rfl⟩))]) (fun j hj => ⟨rfl, am_up_ne _ _ _ hj, rfl⟩) hq
  rw [ew] at hP1 hD1
  exact ih t H1 locs1 cls cells slots ⟨hlen, hP1, hD1, (am_cM_up hM (by rw [am_ty_obj hs ht]; exact ov))⟩ hS1 hL hO h1 h2
theorem am_t_putIF (X : am_cx p R s m args meth c D cl cs A C3 C4 nw Ts cc mL ret y d mc ms) (hC : am_clOK Ts cl ft) {ci k idx : Nat} {C : String} {T : u_T} {N : Nat} (hc : cl[ci]? = some (C, T, N)) (hl : Cond.fieldLink y.cls idx (T k).1 (T k).2.1 (T k).2.2.1 ∈ Ts) (ht : (ft ci)[k]? = some 0) (hf : (T k).2.2.2 = true) (hi : y.name = "<init>") (ho : (T k).1 = y.cls) {q : Nat} {v : Int} (hq : q < h.1.1) (hs : (h.1.2.1 q).1 = ci + 5) (hd : decode cc pc = .ok (.putfield idx, 3)) (ih : am_G p l e R s m args below meth c D cl ft cs A ad0 mL rt mc ms r h' (pc + 3) ls st (h.1, am_up h.2 q (k : Int) v) cb sb) : am_G p l e R s m args below meth c D cl ft cs A ad0 mL rt mc ms r h' pc ls (.inl v :: .inr (.inr (q + 1)) :: st) h cb sb := by
  obtain ⟨hx, hb, hml, hr, hts, hown, hlk, hnm, hK, hA, hRf, hRl, hRc, hRs⟩ := X
  intro t H locs cls cells slots hR hS hL hO h1 h2
  obtain ⟨hlen, hP, hD, hM⟩ := hR
  have ev : am_cv (ad0 ++ t) (.inr (.inr (q + 1))) = .ref ((ad0 ++ t).getD q 0) := by show va_rf _ = _; rw [am_rv_at (by rw [hlen]; omega)]; rfl
  obtain ⟨ov, hO⟩ := List.forall_mem_cons.mp hO
  obtain ⟨oa, hO⟩ := List.forall_mem_cons.mp hO
  obtain ⟨hin, ty0, hty, hnmq, hln, htk⟩ := hC ci C T N hc
  have hk : k < N := by rw [← hln]; exact (List.getElem?_eq_some_iff.mp ht).1
  have tyk : ty0 k = .int := htk k 0 ht
  have hty2 : narrow (ty0 k) (.int (Int32.ofInt v)) = .int (Int32.ofInt v) ∧ fits (ty0 k) (.int (Int32.ofInt v)) = true := by rw [tyk]; exact ⟨rfl, rfl⟩
  have he := am_wl_get (ft := ft) (cs := cs) (ad := ad0 ++ t) hq
  rw [am_el_obj hs] at he
  rw [List.map_cons, List.map_cons, ev]
  refine va_putF hx hb hts hin ty0 hty hnmq hown hK.1 hP hD hS q he hc k hk (hts _ hl) (fun _ z => z) hf (by rw [hnm]; exact hi) ho (hty k hk) hty2.1 hty2.2 (by rw [am_fs_len, hln]; exact hk) hd (fun H1 locs1 hP1 hD1 hS1 => ?_)
  have ew := am_wl_set (ft := ft) (cs := cs) (ad := ad0 ++ t) (h := h) (h' := (h.1, am_up h.2 q (k : Int) v)) (k := q) (e := .inr (ci, (am_fs (ad0 ++ t) (h.2 q) (h.1.2.2 q) (ft ci) 0).set k (am_cv (ad0 ++ t) (.inl v)))) rfl (by show am_el ft cs (ad0 ++ t) (h.1.2.1 q) (am_up h.2 q (k : Int) v q) (h.1.2.2 q) = _; rw [am_up_self, am_el_obj hs, (am_fs_set (ad0 ++ t) (h.2 q) (fun j => if j = (k : Int) then v else h.2 q j) (h.1.2.2 q) (h.1.2.2 q) (ft ci) k 0 ht _ (by show am_fv _ 0 (if (k : Int) = (k : Int) then v else _) _ = _; rw [if_pos rfl]; rfl) (fun j hj => ⟨if_neg (by omega), rfl⟩))]) (fun j hj => ⟨rfl, am_up_ne _ _ _ hj, rfl⟩) hq
  rw [ew] at hP1 hD1
  exact ih t H1 locs1 cls cells slots ⟨hlen, hP1, hD1, (am_cM_up hM (by rw [am_ty_obj hs ht]; exact ov))⟩ hS1 hL hO h1 h2
theorem am_t_putL (X : am_cx p R s m args meth c D cl cs A C3 C4 nw Ts cc mL ret y d mc ms) (hC : am_clOK Ts cl ft) {ci k idx : Nat} {C : String} {T : u_T} {N : Nat} (hc : cl[ci]? = some (C, T, N)) (hl : Cond.fieldLink y.cls idx (T k).1 (T k).2.1 (T k).2.2.1 ∈ Ts) (ht : (ft ci)[k]? = some 1) (hf : (T k).2.2.2 = false) {q : Nat} {v : Int} (hq : q < h.1.1) (hs : (h.1.2.1 q).1 = ci + 5) (hd : decode cc pc = .ok (.putfield idx, 3)) (ih : am_G p l e R s m args below meth c D cl ft cs A ad0 mL rt mc ms r h' (pc + 3) ls st (h.1, am_up h.2 q (k : Int) v) cb sb) : am_G p l e R s m args below meth c D cl ft cs A ad0 mL rt mc ms r h' pc ls (.inr (.inl v) :: .inr (.inr (q + 1)) :: st) h cb sb := by
  obtain ⟨hx, hb, hml, hr, hts, hown, hlk, hnm, hK, hA, hRf, hRl, hRc, hRs⟩ := X
  intro t H locs cls cells slots hR hS hL hO h1 h2
  obtain ⟨hlen, hP, hD, hM⟩ := hR
  have ev : am_cv (ad0 ++ t) (.inr (.inr (q + 1))) = .ref ((ad0 ++ t).getD q 0) := by show va_rf _ = _; rw [am_rv_at (by rw [hlen]; omega)]; rfl
  obtain ⟨ov, hO⟩ := List.forall_mem_cons.mp hO
  obtain ⟨oa, hO⟩ := List.forall_mem_cons.mp hO
  obtain ⟨hin, ty0, hty, hnmq, hln, htk⟩ := hC ci C T N hc
  have hk : k < N := by rw [← hln]; exact (List.getElem?_eq_some_iff.mp ht).1
  have tyk : ty0 k = .long := htk k 1 ht
  have hty2 : narrow (ty0 k) (.long (Int64.ofInt v)) = .long (Int64.ofInt v) ∧ fits (ty0 k) (.long (Int64.ofInt v)) = true := by rw [tyk]; exact ⟨rfl, rfl⟩
  have he := am_wl_get (ft := ft) (cs := cs) (ad := ad0 ++ t) hq
  rw [am_el_obj hs] at he
  rw [List.map_cons, List.map_cons, ev]
  refine va_put hx hb hts hin ty0 hty hnmq hown hK.1 hP hD hS q he hc k hk (hts _ hl) (fun _ z => z) hf (hty k hk) hty2.1 hty2.2 (by rw [am_fs_len, hln]; exact hk) hd (fun H1 locs1 hP1 hD1 hS1 => ?_)
  have ew := am_wl_set (ft := ft) (cs := cs) (ad := ad0 ++ t) (h := h) (h' := (h.1, am_up h.2 q (k : Int) v)) (k := q) (e := .inr (ci, (am_fs (ad0 ++ t) (h.2 q) (h.1.2.2 q) (ft ci) 0).set k (am_cv (ad0 ++ t) (.inr (.inl v))))) rfl (by show am_el ft cs (ad0 ++ t) (h.1.2.1 q) (am_up h.2 q (k : Int) v q) (h.1.2.2 q) = _; rw [am_up_self, am_el_obj hs, (am_fs_set (ad0 ++ t) (h.2 q) (fun j => if j = (k : Int) then v else h.2 q j) (h.1.2.2 q) (h.1.2.2 q) (ft ci) k 1 ht _ (by show am_fv _ 1 (if (k : Int) = (k : Int) then v else _) _ = _; rw [if_pos rfl]; rfl) (fun j hj => ⟨if_neg (by omega), rfl⟩))]) (fun j hj => ⟨rfl, am_up_ne _ _ _ hj, rfl⟩) hq
  rw [ew] at hP1 hD1
  exact ih t H1 locs1 cls cells slots ⟨hlen, hP1, hD1, (am_cM_up hM (by rw [am_ty_obj hs ht]; exact ov))⟩ hS1 hL hO h1 h2
theorem am_t_putLF (X : am_cx p R s m args meth c D cl cs A C3 C4 nw Ts cc mL ret y d mc ms) (hC : am_clOK Ts cl ft) {ci k idx : Nat} {C : String} {T : u_T} {N : Nat} (hc : cl[ci]? = some (C, T, N)) (hl : Cond.fieldLink y.cls idx (T k).1 (T k).2.1 (T k).2.2.1 ∈ Ts) (ht : (ft ci)[k]? = some 1) (hf : (T k).2.2.2 = true) (hi : y.name = "<init>") (ho : (T k).1 = y.cls) {q : Nat} {v : Int} (hq : q < h.1.1) (hs : (h.1.2.1 q).1 = ci + 5) (hd : decode cc pc = .ok (.putfield idx, 3)) (ih : am_G p l e R s m args below meth c D cl ft cs A ad0 mL rt mc ms r h' (pc + 3) ls st (h.1, am_up h.2 q (k : Int) v) cb sb) : am_G p l e R s m args below meth c D cl ft cs A ad0 mL rt mc ms r h' pc ls (.inr (.inl v) :: .inr (.inr (q + 1)) :: st) h cb sb := by
  obtain ⟨hx, hb, hml, hr, hts, hown, hlk, hnm, hK, hA, hRf, hRl, hRc, hRs⟩ := X
  intro t H locs cls cells slots hR hS hL hO h1 h2
  obtain ⟨hlen, hP, hD, hM⟩ := hR
  have ev : am_cv (ad0 ++ t) (.inr (.inr (q + 1))) = .ref ((ad0 ++ t).getD q 0) := by show va_rf _ = _; rw [am_rv_at (by rw [hlen]; omega)]; rfl
  obtain ⟨ov, hO⟩ := List.forall_mem_cons.mp hO
  obtain ⟨oa, hO⟩ := List.forall_mem_cons.mp hO
  obtain ⟨hin, ty0, hty, hnmq, hln, htk⟩ := hC ci C T N hc
  have hk : k < N := by rw [← hln]; exact (List.getElem?_eq_some_iff.mp ht).1
  have tyk : ty0 k = .long := htk k 1 ht
  have hty2 : narrow (ty0 k) (.long (Int64.ofInt v)) = .long (Int64.ofInt v) ∧ fits (ty0 k) (.long (Int64.ofInt v)) = true := by rw [tyk]; exact ⟨rfl, rfl⟩
  have he := am_wl_get (ft := ft) (cs := cs) (ad := ad0 ++ t) hq
  rw [am_el_obj hs] at he
  rw [List.map_cons, List.map_cons, ev]
  refine va_putF hx hb hts hin ty0 hty hnmq hown hK.1 hP hD hS q he hc k hk (hts _ hl) (fun _ z => z) hf (by rw [hnm]; exact hi) ho (hty k hk) hty2.1 hty2.2 (by rw [am_fs_len, hln]; exact hk) hd (fun H1 locs1 hP1 hD1 hS1 => ?_)
  have ew := am_wl_set (ft := ft) (cs := cs) (ad := ad0 ++ t) (h := h) (h' := (h.1, am_up h.2 q (k : Int) v)) (k := q) (e := .inr (ci, (am_fs (ad0 ++ t) (h.2 q) (h.1.2.2 q) (ft ci) 0).set k (am_cv (ad0 ++ t) (.inr (.inl v))))) rfl (by show am_el ft cs (ad0 ++ t) (h.1.2.1 q) (am_up h.2 q (k : Int) v q) (h.1.2.2 q) = _; rw [am_up_self, am_el_obj hs, (am_fs_set (ad0 ++ t) (h.2 q) (fun j => if j = (k : Int) then v else h.2 q j) (h.1.2.2 q) (h.1.2.2 q) (ft ci) k 1 ht _ (by show am_fv _ 1 (if (k : Int) = (k : Int) then v else _) _ = _; rw [if_pos rfl]; rfl) (fun j hj => ⟨if_neg (by omega), rfl⟩))]) (fun j hj => ⟨rfl, am_up_ne _ _ _ hj, rfl⟩) hq
  rw [ew] at hP1 hD1
  exact ih t H1 locs1 cls cells slots ⟨hlen, hP1, hD1, (am_cM_up hM (by rw [am_ty_obj hs ht]; exact ov))⟩ hS1 hL hO h1 h2
theorem am_t_putR (X : am_cx p R s m args meth c D cl cs A C3 C4 nw Ts cc mL ret y d mc ms) (hC : am_clOK Ts cl ft) {ci k idx : Nat} {C : String} {T : u_T} {N : Nat} (hc : cl[ci]? = some (C, T, N)) (hl : Cond.fieldLink y.cls idx (T k).1 (T k).2.1 (T k).2.2.1 ∈ Ts) (ht : (ft ci)[k]? = some 2) (hf : (T k).2.2.2 = false) {q : Nat} {v : Nat} (hq : q < h.1.1) (hs : (h.1.2.1 q).1 = ci + 5) (hd : decode cc pc = .ok (.putfield idx, 3)) (ih : am_G p l e R s m args below meth c D cl ft cs A ad0 mL rt mc ms r h' (pc + 3) ls st ((h.1.1, h.1.2.1, am_up h.1.2.2 q (k : Int) v), h.2) cb sb) : am_G p l e R s m args below meth c D cl ft cs A ad0 mL rt mc ms r h' pc ls (.inr (.inr v) :: .inr (.inr (q + 1)) :: st) h cb sb := by
  obtain ⟨hx, hb, hml, hr, hts, hown, hlk, hnm, hK, hA, hRf, hRl, hRc, hRs⟩ := X
  intro t H locs cls cells slots hR hS hL hO h1 h2
  obtain ⟨hlen, hP, hD, hM⟩ := hR
  have ev : am_cv (ad0 ++ t) (.inr (.inr (q + 1))) = .ref ((ad0 ++ t).getD q 0) := by show va_rf _ = _; rw [am_rv_at (by rw [hlen]; omega)]; rfl
  obtain ⟨ov, hO⟩ := List.forall_mem_cons.mp hO
  obtain ⟨oa, hO⟩ := List.forall_mem_cons.mp hO
  obtain ⟨hin, ty0, hty, hnmq, hln, htk⟩ := hC ci C T N hc
  have hk : k < N := by rw [← hln]; exact (List.getElem?_eq_some_iff.mp ht).1
  have tyk : ((∃ C, ty0 k = .object C) ∨ ∃ u, ty0 k = .array u) := htk k 2 ht
  have hty2 : narrow (ty0 k) (va_rf (am_rv (ad0 ++ t) v)) = va_rf (am_rv (ad0 ++ t) v) ∧ fits (ty0 k) (va_rf (am_rv (ad0 ++ t) v)) = true := by
    rcases tyk with ⟨C', e⟩ | ⟨u, e⟩ <;> rw [e] <;> cases am_rv (ad0 ++ t) v <;> exact ⟨rfl, rfl⟩
  have he := am_wl_get (ft := ft) (cs := cs) (ad := ad0 ++ t) hq
  rw [am_el_obj hs] at he
  rw [List.map_cons, List.map_cons, ev]
  refine va_put hx hb hts hin ty0 hty hnmq hown hK.1 hP hD hS q he hc k hk (hts _ hl) (fun _ z => z) hf (hty k hk) hty2.1 hty2.2 (by rw [am_fs_len, hln]; exact hk) hd (fun H1 locs1 hP1 hD1 hS1 => ?_)
  have ew := am_wl_set (ft := ft) (cs := cs) (ad := ad0 ++ t) (h := h) (h' := ((h.1.1, h.1.2.1, am_up h.1.2.2 q (k : Int) v), h.2)) (k := q) (e := .inr (ci, (am_fs (ad0 ++ t) (h.2 q) (h.1.2.2 q) (ft ci) 0).set k (am_cv (ad0 ++ t) (.inr (.inr v))))) rfl (by show am_el ft cs (ad0 ++ t) (h.1.2.1 q) (h.2 q) (am_up h.1.2.2 q (k : Int) v q) = _; rw [am_up_self, am_el_obj hs, (am_fs_set (ad0 ++ t) (h.2 q) (h.2 q) (h.1.2.2 q) (fun j => if j = (k : Int) then v else h.1.2.2 q j) (ft ci) k 2 ht _ (by show am_fv _ 2 _ (if (k : Int) = (k : Int) then v else _) = _; rw [if_pos rfl]; rfl) (fun j hj => ⟨rfl, if_neg (by omega)⟩))]) (fun j hj => ⟨rfl, rfl, am_up_ne _ _ _ hj⟩) hq
  rw [ew] at hP1 hD1
  exact ih t H1 locs1 cls cells slots ⟨hlen, hP1, hD1, (am_cM_upr hM (by rw [am_ty_obj hs ht]; exact ov))⟩ hS1 hL hO h1 h2
theorem am_t_putRF (X : am_cx p R s m args meth c D cl cs A C3 C4 nw Ts cc mL ret y d mc ms) (hC : am_clOK Ts cl ft) {ci k idx : Nat} {C : String} {T : u_T} {N : Nat} (hc : cl[ci]? = some (C, T, N)) (hl : Cond.fieldLink y.cls idx (T k).1 (T k).2.1 (T k).2.2.1 ∈ Ts) (ht : (ft ci)[k]? = some 2) (hf : (T k).2.2.2 = true) (hi : y.name = "<init>") (ho : (T k).1 = y.cls) {q : Nat} {v : Nat} (hq : q < h.1.1) (hs : (h.1.2.1 q).1 = ci + 5) (hd : decode cc pc = .ok (.putfield idx, 3)) (ih : am_G p l e R s m args below meth c D cl ft cs A ad0 mL rt mc ms r h' (pc + 3) ls st ((h.1.1, h.1.2.1, am_up h.1.2.2 q (k : Int) v), h.2) cb sb) : am_G p l e R s m args below meth c D cl ft cs A ad0 mL rt mc ms r h' pc ls (.inr (.inr v) :: .inr (.inr (q + 1)) :: st) h cb sb := by
  obtain ⟨hx, hb, hml, hr, hts, hown, hlk, hnm, hK, hA, hRf, hRl, hRc, hRs⟩ := X
  intro t H locs cls cells slots hR hS hL hO h1 h2
  obtain ⟨hlen, hP, hD, hM⟩ := hR
  have ev : am_cv (ad0 ++ t) (.inr (.inr (q + 1))) = .ref ((ad0 ++ t).getD q 0) := by show va_rf _ = _; rw [am_rv_at (by rw [hlen]; omega)]; rfl
  obtain ⟨ov, hO⟩ := List.forall_mem_cons.mp hO
  obtain ⟨oa, hO⟩ := List.forall_mem_cons.mp hO
  obtain ⟨hin, ty0, hty, hnmq, hln, htk⟩ := hC ci C T N hc
  have hk : k < N := by rw [← hln]; exact (List.getElem?_eq_some_iff.mp ht).1
  have tyk : ((∃ C, ty0 k = .object C) ∨ ∃ u, ty0 k = .array u) := htk k 2 ht
  have hty2 : narrow (ty0 k) (va_rf (am_rv (ad0 ++ t) v)) = va_rf (am_rv (ad0 ++ t) v) ∧ fits (ty0 k) (va_rf (am_rv (ad0 ++ t) v)) = true := by
    rcases tyk with ⟨C', e⟩ | ⟨u, e⟩ <;> rw [e] <;> cases am_rv (ad0 ++ t) v <;> exact ⟨rfl, rfl⟩
  have he := am_wl_get (ft := ft) (cs := cs) (ad := ad0 ++ t) hq
  rw [am_el_obj hs] at he
  rw [List.map_cons, List.map_cons, ev]
  refine va_putF hx hb hts hin ty0 hty hnmq hown hK.1 hP hD hS q he hc k hk (hts _ hl) (fun _ z => z) hf (by rw [hnm]; exact hi) ho (hty k hk) hty2.1 hty2.2 (by rw [am_fs_len, hln]; exact hk) hd (fun H1 locs1 hP1 hD1 hS1 => ?_)
  have ew := am_wl_set (ft := ft) (cs := cs) (ad := ad0 ++ t) (h := h) (h' := ((h.1.1, h.1.2.1, am_up h.1.2.2 q (k : Int) v), h.2)) (k := q) (e := .inr (ci, (am_fs (ad0 ++ t) (h.2 q) (h.1.2.2 q) (ft ci) 0).set k (am_cv (ad0 ++ t) (.inr (.inr v))))) rfl (by show am_el ft cs (ad0 ++ t) (h.1.2.1 q) (h.2 q) (am_up h.1.2.2 q (k : Int) v q) = _; rw [am_up_self, am_el_obj hs, (am_fs_set (ad0 ++ t) (h.2 q) (h.2 q) (h.1.2.2 q) (fun j => if j = (k : Int) then v else h.1.2.2 q j) (ft ci) k 2 ht _ (by show am_fv _ 2 _ (if (k : Int) = (k : Int) then v else _) = _; rw [if_pos rfl]; rfl) (fun j hj => ⟨rfl, if_neg (by omega)⟩))]) (fun j hj => ⟨rfl, rfl, am_up_ne _ _ _ hj⟩) hq
  rw [ew] at hP1 hD1
  exact ih t H1 locs1 cls cells slots ⟨hlen, hP1, hD1, (am_cM_upr hM (by rw [am_ty_obj hs ht]; exact ov))⟩ hS1 hL hO h1 h2
theorem am_t_putZ (X : am_cx p R s m args meth c D cl cs A C3 C4 nw Ts cc mL ret y d mc ms) (hC : am_clOK Ts cl ft) {ci k idx : Nat} {C : String} {T : u_T} {N : Nat} (hc : cl[ci]? = some (C, T, N)) (hl : Cond.fieldLink y.cls idx (T k).1 (T k).2.1 (T k).2.2.1 ∈ Ts) (ht : (ft ci)[k]? = some 3) (hf : (T k).2.2.2 = false) {q : Nat} {v : Int} (hz : v = 0 ∨ v = 1) (hq : q < h.1.1) (hs : (h.1.2.1 q).1 = ci + 5) (hd : decode cc pc = .ok (.putfield idx, 3)) (ih : am_G p l e R s m args below meth c D cl ft cs A ad0 mL rt mc ms r h' (pc + 3) ls st (h.1, am_up h.2 q (k : Int) v) cb sb) : am_G p l e R s m args below meth c D cl ft cs A ad0 mL rt mc ms r h' pc ls (.inl v :: .inr (.inr (q + 1)) :: st) h cb sb := by
  obtain ⟨hx, hb, hml, hr, hts, hown, hlk, hnm, hK, hA, hRf, hRl, hRc, hRs⟩ := X
  intro t H locs cls cells slots hR hS hL hO h1 h2
  obtain ⟨hlen, hP, hD, hM⟩ := hR
  have ev : am_cv (ad0 ++ t) (.inr (.inr (q + 1))) = .ref ((ad0 ++ t).getD q 0) := by show va_rf _ = _; rw [am_rv_at (by rw [hlen]; omega)]; rfl
  obtain ⟨ov, hO⟩ := List.forall_mem_cons.mp hO
  obtain ⟨oa, hO⟩ := List.forall_mem_cons.mp hO
  obtain ⟨hin, ty0, hty, hnmq, hln, htk⟩ := hC ci C T N hc
  have hk : k < N := by rw [← hln]; exact (List.getElem?_eq_some_iff.mp ht).1
  have tyk : ty0 k = .boolean := htk k 3 ht
  have hty2 : narrow (ty0 k) (.int (Int32.ofInt v)) = .int (Int32.ofInt v) ∧ fits (ty0 k) (.int (Int32.ofInt v)) = true := by
    rw [tyk]; rcases hz with rfl | rfl <;> exact ⟨by decide, by decide⟩
  have he := am_wl_get (ft := ft) (cs := cs) (ad := ad0 ++ t) hq
  rw [am_el_obj hs] at he
  rw [List.map_cons, List.map_cons, ev]
  refine va_put hx hb hts hin ty0 hty hnmq hown hK.1 hP hD hS q he hc k hk (hts _ hl) (fun _ z => z) hf (hty k hk) hty2.1 hty2.2 (by rw [am_fs_len, hln]; exact hk) hd (fun H1 locs1 hP1 hD1 hS1 => ?_)
  have ew := am_wl_set (ft := ft) (cs := cs) (ad := ad0 ++ t) (h := h) (h' := (h.1, am_up h.2 q (k : Int) v)) (k := q) (e := .inr (ci, (am_fs (ad0 ++ t) (h.2 q) (h.1.2.2 q) (ft ci) 0).set k (am_cv (ad0 ++ t) (.inl v)))) rfl (by show am_el ft cs (ad0 ++ t) (h.1.2.1 q) (am_up h.2 q (k : Int) v q) (h.1.2.2 q) = _; rw [am_up_self, am_el_obj hs, (am_fs_set (ad0 ++ t) (h.2 q) (fun j => if j = (k : Int) then v else h.2 q j) (h.1.2.2 q) (h.1.2.2 q) (ft ci) k 3 ht _ (by show am_fv _ 3 (if (k : Int) = (k : Int) then v else _) _ = _; rw [if_pos rfl]; rfl) (fun j hj => ⟨if_neg (by omega), rfl⟩))]) (fun j hj => ⟨rfl, am_up_ne _ _ _ hj, rfl⟩) hq
  rw [ew] at hP1 hD1
  exact ih t H1 locs1 cls cells slots ⟨hlen, hP1, hD1, (am_cM_up hM (by rw [am_ty_obj hs ht]; exact hz))⟩ hS1 hL hO h1 h2
theorem am_t_putZF (X : am_cx p R s m args meth c D cl cs A C3 C4 nw Ts cc mL ret y d mc ms) (hC : am_clOK Ts cl ft) {ci k idx : Nat} {C : String} {T : u_T} {N : Nat} (hc : cl[ci]? = some (C, T, N)) (hl : Cond.fieldLink y.cls idx (T k).1 (T k).2.1 (T k).2.2.1 ∈ Ts) (ht : (ft ci)[k]? = some 3) (hf : (T k).2.2.2 = true) (hi : y.name = "<init>") (ho : (T k).1 = y.cls) {q : Nat} {v : Int} (hz : v = 0 ∨ v = 1) (hq : q < h.1.1) (hs : (h.1.2.1 q).1 = ci + 5) (hd : decode cc pc = .ok (.putfield idx, 3)) (ih : am_G p l e R s m args below meth c D cl ft cs A ad0 mL rt mc ms r h' (pc + 3) ls st (h.1, am_up h.2 q (k : Int) v) cb sb) : am_G p l e R s m args below meth c D cl ft cs A ad0 mL rt mc ms r h' pc ls (.inl v :: .inr (.inr (q + 1)) :: st) h cb sb := by
  obtain ⟨hx, hb, hml, hr, hts, hown, hlk, hnm, hK, hA, hRf, hRl, hRc, hRs⟩ := X
  intro t H locs cls cells slots hR hS hL hO h1 h2
  obtain ⟨hlen, hP, hD, hM⟩ := hR
  have ev : am_cv (ad0 ++ t) (.inr (.inr (q + 1))) = .ref ((ad0 ++ t).getD q 0) := by show va_rf _ = _; rw [am_rv_at (by rw [hlen]; omega)]; rfl
  obtain ⟨ov, hO⟩ := List.forall_mem_cons.mp hO
  obtain ⟨oa, hO⟩ := List.forall_mem_cons.mp hO
  obtain ⟨hin, ty0, hty, hnmq, hln, htk⟩ := hC ci C T N hc
  have hk : k < N := by rw [← hln]; exact (List.getElem?_eq_some_iff.mp ht).1
  have tyk : ty0 k = .boolean := htk k 3 ht
  have hty2 : narrow (ty0 k) (.int (Int32.ofInt v)) = .int (Int32.ofInt v) ∧ fits (ty0 k) (.int (Int32.ofInt v)) = true := by
    rw [tyk]; rcases hz with rfl | rfl <;> exact ⟨by decide, by decide⟩
  have he := am_wl_get (ft := ft) (cs := cs) (ad := ad0 ++ t) hq
  rw [am_el_obj hs] at he
  rw [List.map_cons, List.map_cons, ev]
  refine va_putF hx hb hts hin ty0 hty hnmq hown hK.1 hP hD hS q he hc k hk (hts _ hl) (fun _ z => z) hf (by rw [hnm]; exact hi) ho (hty k hk) hty2.1 hty2.2 (by rw [am_fs_len, hln]; exact hk) hd (fun H1 locs1 hP1 hD1 hS1 => ?_)
  have ew := am_wl_set (ft := ft) (cs := cs) (ad := ad0 ++ t) (h := h) (h' := (h.1, am_up h.2 q (k : Int) v)) (k := q) (e := .inr (ci, (am_fs (ad0 ++ t) (h.2 q) (h.1.2.2 q) (ft ci) 0).set k (am_cv (ad0 ++ t) (.inl v)))) rfl (by show am_el ft cs (ad0 ++ t) (h.1.2.1 q) (am_up h.2 q (k : Int) v q) (h.1.2.2 q) = _; rw [am_up_self, am_el_obj hs, (am_fs_set (ad0 ++ t) (h.2 q) (fun j => if j = (k : Int) then v else h.2 q j) (h.1.2.2 q) (h.1.2.2 q) (ft ci) k 3 ht _ (by show am_fv _ 3 (if (k : Int) = (k : Int) then v else _) _ = _; rw [if_pos rfl]; rfl) (fun j hj => ⟨if_neg (by omega), rfl⟩))]) (fun j hj => ⟨rfl, am_up_ne _ _ _ hj, rfl⟩) hq
  rw [ew] at hP1 hD1
  exact ih t H1 locs1 cls cells slots ⟨hlen, hP1, hD1, (am_cM_up hM (by rw [am_ty_obj hs ht]; exact hz))⟩ hS1 hL hO h1 h2
theorem am_t_iaload (X : am_cx p R s m args meth c D cl cs A C3 C4 nw Ts cc mL ret y d mc ms) {i : Int} {q : Nat} (hq : q < h.1.1) (hs : (h.1.2.1 q).1 = 0) (i0 : 0 ≤ i) (i1 : i < ((h.1.2.1 q).2 : Int)) (hd : decode cc pc = .ok (.iaload, 1)) (ih : am_G p l e R s m args below meth c D cl ft cs A ad0 mL rt mc ms r h' (pc + 1) ls (.inl (h.2 q i) :: st) h cb sb) : am_G p l e R s m args below meth c D cl ft cs A ad0 mL rt mc ms r h' pc ls (.inl i :: .inr (.inr (q + 1)) :: st) h cb sb := by
  obtain ⟨hx, hb, hml, hr, hts, hown, hlk, hnm, hK, hA, hRf, hRl, hRc, hRs⟩ := X
  intro t H locs cls cells slots hR hS hL hO h1 h2
  obtain ⟨hlen, hP, hD, hM⟩ := hR
  have ev : am_cv (ad0 ++ t) (.inr (.inr (q + 1))) = .ref ((ad0 ++ t).getD q 0) := by show va_rf _ = _; rw [am_rv_at (by rw [hlen]; omega)]; rfl
  obtain ⟨oi, hO⟩ := List.forall_mem_cons.mp hO
  obtain ⟨oa, hO⟩ := List.forall_mem_cons.mp hO
  have he := am_wl_get (ft := ft) (cs := cs) (ad := ad0 ++ t) hq
  have tk := hM q hq i i0
  generalize hsh : h.1.2.1 q = sh at hs i1 he tk
  obtain ⟨kd, n⟩ := sh
  have hs : kd = 0 := hs
  subst hs
  have k0 := ih t H locs cls cells slots ⟨hlen, hP, hD, hM⟩ hS hL (List.forall_mem_cons.mpr ⟨tk, hO⟩) h1 h2
  have ei : ((Int32.ofInt i).toNatClampNeg : Int) = i := by rw [am_nat32 oi]; omega
  rw [List.map_cons, List.map_cons, ev]
  refine va_iald hx hb hK.1 hP q 0 he rfl (am_in oi i0 i1) hd ?_
  rw [ei]
  exact k0
theorem am_t_laload (X : am_cx p R s m args meth c D cl cs A C3 C4 nw Ts cc mL ret y d mc ms) {i : Int} {q : Nat} (hq : q < h.1.1) (hs : (h.1.2.1 q).1 = 1) (i0 : 0 ≤ i) (i1 : i < ((h.1.2.1 q).2 : Int)) (hd : decode cc pc = .ok (.laload, 1)) (ih : am_G p l e R s m args below meth c D cl ft cs A ad0 mL rt mc ms r h' (pc + 1) ls (.inr (.inl (h.2 q i)) :: st) h cb sb) : am_G p l e R s m args below meth c D cl ft cs A ad0 mL rt mc ms r h' pc ls (.inl i :: .inr (.inr (q + 1)) :: st) h cb sb := by
  obtain ⟨hx, hb, hml, hr, hts, hown, hlk, hnm, hK, hA, hRf, hRl, hRc, hRs⟩ := X
  intro t H locs cls cells slots hR hS hL hO h1 h2
  obtain ⟨hlen, hP, hD, hM⟩ := hR
  have ev : am_cv (ad0 ++ t) (.inr (.inr (q + 1))) = .ref ((ad0 ++ t).getD q 0) := by show va_rf _ = _; rw [am_rv_at (by rw [hlen]; omega)]; rfl
  obtain ⟨oi, hO⟩ := List.forall_mem_cons.mp hO
  obtain ⟨oa, hO⟩ := List.forall_mem_cons.mp hO
  have he := am_wl_get (ft := ft) (cs := cs) (ad := ad0 ++ t) hq
  have tk := hM q hq i i0
  generalize hsh : h.1.2.1 q = sh at hs i1 he tk
  obtain ⟨kd, n⟩ := sh
  have hs : kd = 1 := hs
  subst hs
  have k0 := ih t H locs cls cells slots ⟨hlen, hP, hD, hM⟩ hS hL (List.forall_mem_cons.mpr ⟨tk, hO⟩) h1 h2
  have ei : ((Int32.ofInt i).toNatClampNeg : Int) = i := by rw [am_nat32 oi]; omega
  rw [List.map_cons, List.map_cons, ev]
  refine va_lald hx hb hK.1 hP q 1 he rfl (am_in oi i0 i1) hd ?_
  rw [ei]
  exact k0
theorem am_t_baload (X : am_cx p R s m args meth c D cl cs A C3 C4 nw Ts cc mL ret y d mc ms) {i : Int} {q : Nat} (hq : q < h.1.1) (hs : (h.1.2.1 q).1 = 2) (i0 : 0 ≤ i) (i1 : i < ((h.1.2.1 q).2 : Int)) (hd : decode cc pc = .ok (.baload, 1)) (ih : am_G p l e R s m args below meth c D cl ft cs A ad0 mL rt mc ms r h' (pc + 1) ls (.inl (h.2 q i) :: st) h cb sb) : am_G p l e R s m args below meth c D cl ft cs A ad0 mL rt mc ms r h' pc ls (.inl i :: .inr (.inr (q + 1)) :: st) h cb sb := by
  obtain ⟨hx, hb, hml, hr, hts, hown, hlk, hnm, hK, hA, hRf, hRl, hRc, hRs⟩ := X
  intro t H locs cls cells slots hR hS hL hO h1 h2
  obtain ⟨hlen, hP, hD, hM⟩ := hR
  have ev : am_cv (ad0 ++ t) (.inr (.inr (q + 1))) = .ref ((ad0 ++ t).getD q 0) := by show va_rf _ = _; rw [am_rv_at (by rw [hlen]; omega)]; rfl
  obtain ⟨oi, hO⟩ := List.forall_mem_cons.mp hO
  obtain ⟨oa, hO⟩ := List.forall_mem_cons.mp hO
  have he := am_wl_get (ft := ft) (cs := cs) (ad := ad0 ++ t) hq
  have tk := hM q hq i i0
  generalize hsh : h.1.2.1 q = sh at hs i1 he tk
  obtain ⟨kd, n⟩ := sh
  have hs : kd = 2 := hs
  subst hs
  have k0 := ih t H locs cls cells slots ⟨hlen, hP, hD, hM⟩ hS hL (List.forall_mem_cons.mpr ⟨(by have tk : -128 ≤ h.2 q i ∧ h.2 q i < 128 := tk; show am_i32 (h.2 q i); unfold am_i32; omega), hO⟩) h1 h2
  have ei : ((Int32.ofInt i).toNatClampNeg : Int) = i := by rw [am_nat32 oi]; omega
  rw [List.map_cons, List.map_cons, ev]
  refine va_bald hx hb hK.1 hP q 2 he rfl (am_in oi i0 i1) hd ?_
  rw [ei]
  exact k0
theorem am_t_aaload (X : am_cx p R s m args meth c D cl cs A C3 C4 nw Ts cc mL ret y d mc ms) {i : Int} {q x1 : Nat} (hx1 : x1 = 3 ∨ x1 = 4) (hq : q < h.1.1) (hs : (h.1.2.1 q).1 = x1) (i0 : 0 ≤ i) (i1 : i < ((h.1.2.1 q).2 : Int)) (hd : decode cc pc = .ok (.aaload, 1)) (ih : am_G p l e R s m args below meth c D cl ft cs A ad0 mL rt mc ms r h' (pc + 1) ls (.inr (.inr (h.1.2.2 q i)) :: st) h cb sb) : am_G p l e R s m args below meth c D cl ft cs A ad0 mL rt mc ms r h' pc ls (.inl i :: .inr (.inr (q + 1)) :: st) h cb sb := by
  obtain ⟨hx, hb, hml, hr, hts, hown, hlk, hnm, hK, hA, hRf, hRl, hRc, hRs⟩ := X
  intro t H locs cls cells slots hR hS hL hO h1 h2
  obtain ⟨hlen, hP, hD, hM⟩ := hR
  have ev : am_cv (ad0 ++ t) (.inr (.inr (q + 1))) = .ref ((ad0 ++ t).getD q 0) := by show va_rf _ = _; rw [am_rv_at (by rw [hlen]; omega)]; rfl
  obtain ⟨oi, hO⟩ := List.forall_mem_cons.mp hO
  obtain ⟨oa, hO⟩ := List.forall_mem_cons.mp hO
  have he := am_wl_get (ft := ft) (cs := cs) (ad := ad0 ++ t) hq
  have tk := hM q hq i i0
  generalize hsh : h.1.2.1 q = sh at hs i1 he tk
  obtain ⟨kd, n⟩ := sh
  have ei : ((Int32.ofInt i).toNatClampNeg : Int) = i := by rw [am_nat32 oi]; omega
  rw [List.map_cons, List.map_cons, ev]
  rcases hx1 with e | e
  · have hs : kd = 3 := hs.trans e
    subst hs
    refine va_aldq hx hb hK.1 hP q 3 he rfl (am_in oi i0 i1) hd ?_
    rw [ei]
    exact ih t H locs cls cells slots ⟨hlen, hP, hD, hM⟩ hS hL (List.forall_mem_cons.mpr ⟨tk, hO⟩) h1 h2
  · have hs : kd = 4 := hs.trans e
    subst hs
    refine va_aldq hx hb hK.1 hP q 4 he rfl (am_in oi i0 i1) hd ?_
    rw [ei]
    exact ih t H locs cls cells slots ⟨hlen, hP, hD, hM⟩ hS hL (List.forall_mem_cons.mpr ⟨tk, hO⟩) h1 h2
theorem am_t_iastore (X : am_cx p R s m args meth c D cl cs A C3 C4 nw Ts cc mL ret y d mc ms) {i v : Int} {q : Nat} (hq : q < h.1.1) (hs : (h.1.2.1 q).1 = 0) (i0 : 0 ≤ i) (i1 : i < ((h.1.2.1 q).2 : Int)) (hd : decode cc pc = .ok (.iastore, 1)) (ih : am_G p l e R s m args below meth c D cl ft cs A ad0 mL rt mc ms r h' (pc + 1) ls st (h.1, am_up h.2 q i v) cb sb) : am_G p l e R s m args below meth c D cl ft cs A ad0 mL rt mc ms r h' pc ls (.inl v :: .inl i :: .inr (.inr (q + 1)) :: st) h cb sb := by
  obtain ⟨hx, hb, hml, hr, hts, hown, hlk, hnm, hK, hA, hRf, hRl, hRc, hRs⟩ := X
  intro t H locs cls cells slots hR hS hL hO h1 h2
  obtain ⟨hlen, hP, hD, hM⟩ := hR
  have ev : am_cv (ad0 ++ t) (.inr (.inr (q + 1))) = .ref ((ad0 ++ t).getD q 0) := by show va_rf _ = _; rw [am_rv_at (by rw [hlen]; omega)]; rfl
  obtain ⟨ov, hO⟩ := List.forall_mem_cons.mp hO
  obtain ⟨oi, hO⟩ := List.forall_mem_cons.mp hO
  obtain ⟨oa, hO⟩ := List.forall_mem_cons.mp hO
  have he := am_wl_get (ft := ft) (cs := cs) (ad := ad0 ++ t) hq
  obtain ⟨n, hsh⟩ : ∃ n, h.1.2.1 q = (0, n) := ⟨(h.1.2.1 q).2, by rw [← hs]⟩
  have cm := am_cM_up (q := q) (i := i) (v := v) hM (by rw [hsh]; exact ov)
  have ew := fun (el : va_E) (he : am_el ft cs (ad0 ++ t) (h.1.2.1 q) (am_up h.2 q i v q) (h.1.2.2 q) = el) => am_wl_set (ft := ft) (cs := cs) (ad := ad0 ++ t) (h := h) (h' := (h.1, am_up h.2 q i v)) (k := q) rfl he (fun j hj => ⟨rfl, am_up_ne _ _ _ hj, rfl⟩) hq
  rw [hsh] at i1 he ew
  have ei : (Int32.ofInt i).toNatClampNeg = i.toNat := am_nat32 oi
  rw [List.map_cons, List.map_cons, List.map_cons, ev]
  refine va_iast hx hb hK.1 hP hD hS q 0 he rfl (am_in oi i0 i1) hd (fun H1 locs1 hP1 hD1 hS1 => ?_)
  rw [ew _ (by
    rw [am_up_self, ei]
    show Sum.inl (cs 0, n, Sum.inl (fun j : Nat => Int32.ofInt (if (j : Int) = i then v else h.2 q (j : Int)))) = _
    congr 4
    funext j
    show _ = (if j = i.toNat then _ else _)
    by_cases e : (j : Int) = i
    · rw [if_pos e, if_pos (by omega)]
    · rw [if_neg e, if_neg (by omega)])] at hP1 hD1
  exact ih t H1 locs1 cls cells slots ⟨hlen, hP1, hD1, cm⟩ hS1 hL hO h1 h2
theorem am_t_lastore (X : am_cx p R s m args meth c D cl cs A C3 C4 nw Ts cc mL ret y d mc ms) {i v : Int} {q : Nat} (hq : q < h.1.1) (hs : (h.1.2.1 q).1 = 1) (i0 : 0 ≤ i) (i1 : i < ((h.1.2.1 q).2 : Int)) (hd : decode cc pc = .ok (.lastore, 1)) (ih : am_G p l e R s m args below meth c D cl ft cs A ad0 mL rt mc ms r h' (pc + 1) ls st (h.1, am_up h.2 q i v) cb sb) : am_G p l e R s m args below meth c D cl ft cs A ad0 mL rt mc ms r h' pc ls (.inr (.inl v) :: .inl i :: .inr (.inr (q + 1)) :: st) h cb sb := by
  obtain ⟨hx, hb, hml, hr, hts, hown, hlk, hnm, hK, hA, hRf, hRl, hRc, hRs⟩ := X
  intro t H locs cls cells slots hR hS hL hO h1 h2
  obtain ⟨hlen, hP, hD, hM⟩ := hR
  have ev : am_cv (ad0 ++ t) (.inr (.inr (q + 1))) = .ref ((ad0 ++ t).getD q 0) := by show va_rf _ = _; rw [am_rv_at (by rw [hlen]; omega)]; rfl
  obtain ⟨ov, hO⟩ := List.forall_mem_cons.mp hO
  obtain ⟨oi, hO⟩ := List.forall_mem_cons.mp hO
  obtain ⟨oa, hO⟩ := List.forall_mem_cons.mp hO
  have he := am_wl_get (ft := ft) (cs := cs) (ad := ad0 ++ t) hq
  obtain ⟨n, hsh⟩ : ∃ n, h.1.2.1 q = (1, n) := ⟨(h.1.2.1 q).2, by rw [← hs]⟩
  have cm := am_cM_up (q := q) (i := i) (v := v) hM (by rw [hsh]; exact ov)
  have ew := fun (el : va_E) (he : am_el ft cs (ad0 ++ t) (h.1.2.1 q) (am_up h.2 q i v q) (h.1.2.2 q) = el) => am_wl_set (ft := ft) (cs := cs) (ad := ad0 ++ t) (h := h) (h' := (h.1, am_up h.2 q i v)) (k := q) rfl he (fun j hj => ⟨rfl, am_up_ne _ _ _ hj, rfl⟩) hq
  rw [hsh] at i1 he ew
  have ei : (Int32.ofInt i).toNatClampNeg = i.toNat := am_nat32 oi
  rw [List.map_cons, List.map_cons, List.map_cons, ev]
  refine va_last hx hb hK.1 hP hD hS q 1 he rfl (am_in oi i0 i1) hd (fun H1 locs1 hP1 hD1 hS1 => ?_)
  rw [ew _ (by
    rw [am_up_self, ei]
    show Sum.inl (cs 1, n, Sum.inr (Sum.inl (fun j : Nat => Int64.ofInt (if (j : Int) = i then v else h.2 q (j : Int))))) = _
    congr 5
    funext j
    show _ = (if j = i.toNat then _ else _)
    by_cases e : (j : Int) = i
    · rw [if_pos e, if_pos (by omega)]
    · rw [if_neg e, if_neg (by omega)])] at hP1 hD1
  exact ih t H1 locs1 cls cells slots ⟨hlen, hP1, hD1, cm⟩ hS1 hL hO h1 h2
theorem am_t_bastore (X : am_cx p R s m args meth c D cl cs A C3 C4 nw Ts cc mL ret y d mc ms) {i v : Int} {q : Nat} (hq : q < h.1.1) (hs : (h.1.2.1 q).1 = 2) (i0 : 0 ≤ i) (i1 : i < ((h.1.2.1 q).2 : Int)) (hd : decode cc pc = .ok (.bastore, 1)) (ih : am_G p l e R s m args below meth c D cl ft cs A ad0 mL rt mc ms r h' (pc + 1) ls st (h.1, am_up h.2 q i (w8 v)) cb sb) : am_G p l e R s m args below meth c D cl ft cs A ad0 mL rt mc ms r h' pc ls (.inl v :: .inl i :: .inr (.inr (q + 1)) :: st) h cb sb := by
  obtain ⟨hx, hb, hml, hr, hts, hown, hlk, hnm, hK, hA, hRf, hRl, hRc, hRs⟩ := X
  intro t H locs cls cells slots hR hS hL hO h1 h2
  obtain ⟨hlen, hP, hD, hM⟩ := hR
  have ev : am_cv (ad0 ++ t) (.inr (.inr (q + 1))) = .ref ((ad0 ++ t).getD q 0) := by show va_rf _ = _; rw [am_rv_at (by rw [hlen]; omega)]; rfl
  obtain ⟨ov, hO⟩ := List.forall_mem_cons.mp hO
  obtain ⟨oi, hO⟩ := List.forall_mem_cons.mp hO
  obtain ⟨oa, hO⟩ := List.forall_mem_cons.mp hO
  have he := am_wl_get (ft := ft) (cs := cs) (ad := ad0 ++ t) hq
  obtain ⟨n, hsh⟩ : ∃ n, h.1.2.1 q = (2, n) := ⟨(h.1.2.1 q).2, by rw [← hs]⟩
  have cm := am_cM_up (q := q) (i := i) (v := (w8 v)) hM (by rw [hsh]; exact w8_rng v)
  have ew := fun (el : va_E) (he : am_el ft cs (ad0 ++ t) (h.1.2.1 q) (am_up h.2 q i (w8 v) q) (h.1.2.2 q) = el) => am_wl_set (ft := ft) (cs := cs) (ad := ad0 ++ t) (h := h) (h' := (h.1, am_up h.2 q i (w8 v))) (k := q) rfl he (fun j hj => ⟨rfl, am_up_ne _ _ _ hj, rfl⟩) hq
  rw [hsh] at i1 he ew
  have ei : (Int32.ofInt i).toNatClampNeg = i.toNat := am_nat32 oi
  rw [List.map_cons, List.map_cons, List.map_cons, ev]
  refine va_bast hx hb hK.1 hP hD hS q 2 he rfl (am_in oi i0 i1) hd (fun H1 locs1 hP1 hD1 hS1 => ?_)
  rw [ew _ (by
    rw [am_up_self, ei]
    show Sum.inl (cs 2, n, Sum.inl (fun j : Nat => Int32.ofInt (if (j : Int) = i then (w8 v) else h.2 q (j : Int)))) = _
    congr 4
    funext j
    show _ = (if j = i.toNat then _ else _)
    by_cases e : (j : Int) = i
    · rw [if_pos e, if_pos (by omega)]; exact (am_i2b v).symm
    · rw [if_neg e, if_neg (by omega)])] at hP1 hD1
  exact ih t H1 locs1 cls cells slots ⟨hlen, hP1, hD1, cm⟩ hS1 hL hO h1 h2
theorem am_t_alen (X : am_cx p R s m args meth c D cl cs A C3 C4 nw Ts cc mL ret y d mc ms) {q x1 : Nat} (hx1 : x1 < 5) (hq : q < h.1.1) (hs : (h.1.2.1 q).1 = x1) (hn : (h.1.2.1 q).2 < 2147483648) (hd : decode cc pc = .ok (.arraylength, 1)) (ih : am_G p l e R s m args below meth c D cl ft cs A ad0 mL rt mc ms r h' (pc + 1) ls (.inl ((h.1.2.1 q).2 : Int) :: st) h cb sb) : am_G p l e R s m args below meth c D cl ft cs A ad0 mL rt mc ms r h' pc ls (.inr (.inr (q + 1)) :: st) h cb sb := by
  obtain ⟨hx, hb, hml, hr, hts, hown, hlk, hnm, hK, hA, hRf, hRl, hRc, hRs⟩ := X
  intro t H locs cls cells slots hR hS hL hO h1 h2
  obtain ⟨hlen, hP, hD, hM⟩ := hR
  have ev : am_cv (ad0 ++ t) (.inr (.inr (q + 1))) = .ref ((ad0 ++ t).getD q 0) := by show va_rf _ = _; rw [am_rv_at (by rw [hlen]; omega)]; rfl
  obtain ⟨oa, hO⟩ := List.forall_mem_cons.mp hO
  have he := am_wl_get (ft := ft) (cs := cs) (ad := ad0 ++ t) hq
  have k0 := ih t H locs cls cells slots ⟨hlen, hP, hD, hM⟩ hS hL (List.forall_mem_cons.mpr ⟨(by show am_i32 _; unfold am_i32; omega), hO⟩) h1 h2
  generalize hsh : h.1.2.1 q = sh at hs he k0 hn
  obtain ⟨kd, n⟩ := sh
  have hs : kd = x1 := hs
  subst hs
  rw [List.map_cons, ev]
  match kd, hx1, he, k0 with
  | 0, _, he, k0 => exact va_alen hx hb hK.1 hP q 0 he rfl (v := Int32.ofInt (n : Int)) Int32.ofInt_eq_ofNat.symm hd k0
  | 1, _, he, k0 => exact va_alen hx hb hK.1 hP q 1 he rfl (v := Int32.ofInt (n : Int)) Int32.ofInt_eq_ofNat.symm hd k0
  | 2, _, he, k0 => exact va_alen hx hb hK.1 hP q 2 he rfl (v := Int32.ofInt (n : Int)) Int32.ofInt_eq_ofNat.symm hd k0
  | 3, _, he, k0 => exact va_alen hx hb hK.1 hP q 3 he rfl (v := Int32.ofInt (n : Int)) Int32.ofInt_eq_ofNat.symm hd k0
  | 4, _, he, k0 => exact va_alen hx hb hK.1 hP q 4 he rfl (v := Int32.ofInt (n : Int)) Int32.ofInt_eq_ofNat.symm hd k0
end AM8
end
section
/-! ends, new cells, calls -/
section AM9
variable {p : Program} {l : Launch} {e : Env} {R : Room} {s : State} {m : MethodId} {args : Array Value} {below : List Frame} {meth : Method} {c : Code}
variable {D : va_G} {cl : List vw_C} {ft : Nat → List Nat} {cs : Nat → ClassId} {A : Nat → Prop} {C3 C4 : String} {nw : List (String × Nat × MethodName × String)} {Ts : List Cond} {cc : ByteArray} {ret : Option FieldType} {y : MethodName} {d : Nat}
variable {ad0 : List Nat} {mL rt mc ms : Nat} {r : Int} {h' : am_h} {pc : Nat} {ls : am_l} {st : List am_v} {h : am_h} {cb sb : Nat}
theorem am_t_ireturn (X : am_cx p R s m args meth c D cl cs A C3 C4 nw Ts cc mL ret y d mc ms) (hret : ret = some .int) (hd : decode cc pc = .ok (.ireturn, 1)) : am_G p l e R s m args below meth c D cl ft cs A ad0 mL 1 mc ms r h pc ls [.inl r] h cb sb := by
  obtain ⟨hx, hb, hml, hr, hts, hown, hlk, hnm, hK, hA, hRf, hRl, hRc, hRs⟩ := X
  intro t H locs cls cells slots hR hS hL hO h1 h2
  refine W.widen (k := mc) (n := ms) (by omega) (by omega) ?_
  exact W.iret hx hb (hr.trans hret) (fun tt ht _ => ⟨⟨t, rfl, by rw [ht]; exact hR, (List.forall_mem_cons.mp hO).1⟩, hS.F ht⟩) hS.2.2 hd hlk
theorem am_t_zreturn (X : am_cx p R s m args meth c D cl cs A C3 C4 nw Ts cc mL ret y d mc ms) (hret : ret = some .boolean) (hz : r = 0 ∨ r = 1) (hd : decode cc pc = .ok (.ireturn, 1)) : am_G p l e R s m args below meth c D cl ft cs A ad0 mL 4 mc ms r h pc ls [.inl r] h cb sb := by
  obtain ⟨hx, hb, hml, hr, hts, hown, hlk, hnm, hK, hA, hRf, hRl, hRc, hRs⟩ := X
  intro t H locs cls cells slots hR hS hL hO h1 h2
  refine W.widen (k := mc) (n := ms) (by omega) (by omega) ?_
  exact W.zret hx hb (hr.trans hret) (by rcases hz with rfl | rfl <;> decide) (fun tt ht _ => ⟨⟨t, rfl, by rw [ht]; exact hR, (List.forall_mem_cons.mp hO).1⟩, hS.F ht⟩) hS.2.2 hd hlk
theorem am_t_lreturn (X : am_cx p R s m args meth c D cl cs A C3 C4 nw Ts cc mL ret y d mc ms) (hret : ret = some .long) (hd : decode cc pc = .ok (.lreturn, 1)) : am_G p l e R s m args below meth c D cl ft cs A ad0 mL 2 mc ms r h pc ls [.inr (.inl r)] h cb sb := by
  obtain ⟨hx, hb, hml, hr, hts, hown, hlk, hnm, hK, hA, hRf, hRl, hRc, hRs⟩ := X
  intro t H locs cls cells slots hR hS hL hO h1 h2
  refine W.widen (k := mc) (n := ms) (by omega) (by omega) ?_
  exact W.lret hx hb (hr.trans hret) (fun tt ht _ => ⟨⟨t, rfl, by rw [ht]; exact hR, (List.forall_mem_cons.mp hO).1⟩, hS.F ht⟩) hS.2.2 hd hlk
theorem am_t_areturn (X : am_cx p R s m args meth c D cl cs A C3 C4 nw Ts cc mL ret y d mc ms) {C : String} {k : Nat} (hret : ret = some (.object C)) (hd : decode cc pc = .ok (.areturn, 1)) : am_G p l e R s m args below meth c D cl ft cs A ad0 mL 3 mc ms ((k + 1 : Nat) : Int) h pc ls [.inr (.inr (k + 1))] h cb sb := by
  obtain ⟨hx, hb, hml, hr, hts, hown, hlk, hnm, hK, hA, hRf, hRl, hRc, hRs⟩ := X
  intro t H locs cls cells slots hR hS hL hO h1 h2
  have o1 : k + 1 ≤ h.1.1 := (List.forall_mem_cons.mp hO).1
  have ev : am_cv (ad0 ++ t) (.inr (.inr (k + 1))) = .ref ((ad0 ++ t).getD k 0) := by show va_rf _ = _; rw [am_rv_at (by rw [hR.1]; omega)]; rfl
  refine W.widen (k := mc) (n := ms) (by omega) (by omega) ?_
  exact W.aret hx hb (hr.trans hret) (Or.inl ⟨C, rfl⟩) (Or.inr ⟨_, ev⟩) (fun tt ht _ => ⟨⟨t, by rw [show am_rvv (ad0 ++ t) 3 ((k + 1 : Nat) : Int) = some (va_rf (am_rv (ad0 ++ t) (((k + 1 : Nat) : Int).toNat))) from rfl, Int.toNat_natCast]; rfl, by rw [ht]; exact hR, by show ((k + 1 : Nat) : Int).toNat ≤ h.1.1; rw [Int.toNat_natCast]; exact o1⟩, hS.F ht⟩) hS.2.2 hd hlk
theorem am_t_return (X : am_cx p R s m args meth c D cl cs A C3 C4 nw Ts cc mL ret y d mc ms) (hret : ret = none) (hd : decode cc pc = .ok (.return_, 1)) : am_G p l e R s m args below meth c D cl ft cs A ad0 mL 0 mc ms r h pc ls [] h cb sb := by
  obtain ⟨hx, hb, hml, hr, hts, hown, hlk, hnm, hK, hA, hRf, hRl, hRc, hRs⟩ := X
  intro t H locs cls cells slots hR hS hL hO h1 h2
  refine W.widen (k := mc) (n := ms) (by omega) (by omega) ?_
  exact W.vret hx hb (hr.trans hret) (fun tt ht _ => ⟨⟨t, rfl, by rw [ht]; exact hR, trivial⟩, hS.F ht⟩) hS.2.2 hd hlk
theorem am_zero_tok (n t : Nat) : am_tok n t 0 0 := match t with
  | 0 => am_0
  | 1 => by show am_i64 0; unfold am_i64; omega
  | 2 => Nat.zero_le _
  | 3 => Or.inl rfl
  | _ + 4 => by show -128 ≤ (0 : Int) ∧ (0 : Int) < 128; omega
theorem am_tok_le {n n' t : Nat} (hn : n ≤ n') {x : Int} {q : Nat} (h : am_tok n t x q) : am_tok n' t x q := match t, h with
  | 0, h => h
  | 1, h => h
  | 2, h => Nat.le_trans h hn
  | 3, h => h
  | _ + 4, h => h
theorem am_cM_new {ft : Nat → List Nat} {h : am_h} (hc : am_cM ft h) (z : Nat × Nat) : am_cM ft (am_new h z) := by
  intro k hk j hj
  have hk : k < h.1.1 + 1 := hk
  show am_tok (h.1.1 + 1) (am_ty ft (am_us h.1.2.1 h.1.1 z k) j) (am_us h.2 h.1.1 (fun _ => 0) k j) (am_us h.1.2.2 h.1.1 (fun _ => 0) k j)
  by_cases e : k = h.1.1
  · have b : Nat.beq k h.1.1 = true := by rw [e]; exact am_beq_t _
    unfold am_us
    rw [b]
    exact am_zero_tok _ _
  · unfold am_us
    rw [am_beq_f e]
    exact am_tok_le (by omega) (hc k (by omega) j hj)
/-- what follows a new cell -/
theorem am_RP_new {H1 : Heap} {q : Nat} {t : List Nat} {z : Nat × Nat} (hlen : (ad0 ++ t).length = h.1.1) (hM : am_cM ft h) (hP1 : va_P D cl (am_wl ft cs (ad0 ++ t) h ++ [(q, am_el ft cs (ad0 ++ t) z (fun _ => 0) (fun _ => 0))]) H1) (hD1 : va_D A (am_wl ft cs (ad0 ++ t) h ++ [(q, am_el ft cs (ad0 ++ t) z (fun _ => 0) (fun _ => 0))])) : am_RP D cl ft cs A (ad0 ++ (t ++ [q])) (am_new h z) H1 := by
  rw [← List.append_assoc]
  refine ⟨by rw [List.length_append, hlen]; rfl, ?_, ?_, am_cM_new hM z⟩
  · rw [am_wl_new hlen hM]; exact hP1
  · rw [am_wl_new hlen hM]; exact hD1
theorem am_new_cv {t : List Nat} {q n : Nat} (hlen : (ad0 ++ t).length = n) : am_cv (ad0 ++ (t ++ [q])) (.inr (.inr (n + 1))) = .ref q := by
  show va_rf (ad0 ++ (t ++ [q]))[n]? = _
  rw [← List.append_assoc, List.getElem?_append_right (by omega), hlen, Nat.sub_self]; rfl
theorem am_t_new (X : am_cx p R s m args meth c D cl cs A C3 C4 nw Ts cc mL ret y d mc ms) (hC : am_clOK Ts cl ft) {ci idx : Nat} {C : String} {T : u_T} {N : Nat} (hc : cl[ci]? = some (C, T, N)) (w1 : Cond.classLink y.cls idx C ∈ Ts) (w2 : Cond.instantiable C N ∈ Ts) (w3 : Cond.initialized C ∈ Ts) (hcb : 1 ≤ cb) (hsb : N ≤ sb) (hd : decode cc pc = .ok (.new idx, 3))
    (ih : am_G p l e R s m args below meth c D cl ft cs A ad0 mL rt mc ms r h' (pc + 3) ls (.inr (.inr (h.1.1 + 1)) :: st) (am_new h (ci + 5, 0)) (cb - 1) (sb - N)) : am_G p l e R s m args below meth c D cl ft cs A ad0 mL rt mc ms r h' pc ls st h cb sb := by
  obtain ⟨hx, hb, hml, hr, hts, hown, hlk, hnm, hK, hA, hRf, hRl, hRc, hRs⟩ := X
  intro t H locs cls cells slots hR hS hL hO h1 h2
  obtain ⟨hlen, hP, hD, hM⟩ := hR
  obtain ⟨hin, ty0, hty, hnmq, hln, htk⟩ := hC ci C T N hc
  refine va_new hx hb hts hin ty0 hty hown (hts _ w1) (hts _ w2) (hts _ w3) hK.1 hP hD hS hA hc (fs := am_fs (ad0 ++ t) (fun _ => 0) (fun _ => 0) (ft ci) 0) (fun j hj => ?_) (by omega) (by omega) hd (fun q H1 hP1 hD1 hS1 => ?_)
  · obtain ⟨u, hu⟩ : ∃ u, (ft ci)[j]? = some u := ⟨_, List.getElem?_eq_getElem (by rw [hln]; exact hj)⟩
    unfold vp_V
    rw [List.getD_eq_getElem?_getD, am_fs_get (ad0 ++ t) (fun _ => 0) (fun _ => 0) (ft ci) 0 j u hu]
    have tk := htk j u hu
    match u, tk with
    | 0, tk => rw [show ty0 j = .int from tk]; rfl
    | 1, tk => rw [show ty0 j = .long from tk]; rfl
    | 2, tk => rcases tk with ⟨C', e⟩ | ⟨u', e⟩ <;> rw [e] <;> rfl
    | 3, tk => rw [show ty0 j = .boolean from tk]; rfl
  · have k0 := ih (t ++ [q]) H1 locs cls (cells + 1) (slots + N) (am_RP_new hlen hM hP1 hD1) hS1 (by rw [← List.append_assoc]; exact hL.app hlen (Nat.le_succ _)) (List.forall_mem_cons.mpr ⟨Nat.le_refl _, fun v hv => am_ok_le (Nat.le_succ _) (hO v hv)⟩) (by omega) (by omega)
    rw [List.map_cons, am_new_cv hlen, ← List.append_assoc, am_st_app hlen st hO] at k0
    exact k0
theorem am_t_newarr (X : am_cx p R s m args meth c D cl cs A C3 C4 nw Ts cc mL ret y d mc ms) {x1 : Nat} {atype : ArrayType} {n : Int} (hk : (x1 = 0 ∧ atype = .int) ∨ (x1 = 1 ∧ atype = .long) ∨ (x1 = 2 ∧ atype = .byte)) (w1 : Cond.arrayClass (newarray.typeOf atype) ∈ Ts) (n0 : 0 ≤ n) (n1 : n ≤ 65536) (hcb : 1 ≤ cb) (hsb : n.toNat ≤ sb) (hd : decode cc pc = .ok (.newarray atype, 2))
    (ih : am_G p l e R s m args below meth c D cl ft cs A ad0 mL rt mc ms r h' (pc + 2) ls (.inr (.inr (h.1.1 + 1)) :: st) (am_new h (x1, n.toNat)) (cb - 1) (sb - n.toNat)) : am_G p l e R s m args below meth c D cl ft cs A ad0 mL rt mc ms r h' pc ls (.inl n :: st) h cb sb := by
  obtain ⟨hx, hb, hml, hr, hts, hown, hlk, hnm, hK, hA, hRf, hRl, hRc, hRs⟩ := X
  intro t H locs cls cells slots hR hS hL hO h1 h2
  obtain ⟨hlen, hP, hD, hM⟩ := hR
  obtain ⟨on, hO⟩ := List.forall_mem_cons.mp hO
  have on : am_i32 n := on
  have nn : ¬ Int32.ofInt n < 0 := fun z => by rw [show (0 : Int32) = Int32.ofInt 0 from rfl, am_lt32 on am_0] at z; omega
  have go : ∀ (q : Nat) (H1 : Heap), va_P D cl (am_wl ft cs (ad0 ++ t) h ++ [(q, am_el ft cs (ad0 ++ t) (x1, n.toNat) (fun _ => 0) (fun _ => 0))]) H1 → va_D A (am_wl ft cs (ad0 ++ t) h ++ [(q, am_el ft cs (ad0 ++ t) (x1, n.toNat) (fun _ => 0) (fun _ => 0))]) → va_S A s.heap H1 locs → W p l e R s m args below meth c H1 locs (cells + 1) (slots + n.toNat) (MQ below (am_Qc D cl ft cs A ad0 rt r h') args s mc ms A) (F0 m (pc + 2) cls (.ref q :: st.map (am_cv (ad0 ++ t)))) := by
    intro q H1 hP1 hD1 hS1
    have k0 := ih (t ++ [q]) H1 locs cls (cells + 1) (slots + n.toNat) (am_RP_new hlen hM hP1 hD1) hS1 (by rw [← List.append_assoc]; exact hL.app hlen (Nat.le_succ _)) (List.forall_mem_cons.mpr ⟨Nat.le_refl _, fun v hv => am_ok_le (Nat.le_succ _) (hO v hv)⟩) (by omega) (by omega)
    rw [List.map_cons, am_new_cv hlen, ← List.append_assoc, am_st_app hlen st hO] at k0
    exact k0
  rcases hk with ⟨rfl, rfl⟩ | ⟨rfl, rfl⟩ | ⟨rfl, rfl⟩
  · refine va_newa (atype := .int) hx hb (hts _ w1) rfl hK.1 hP hD hS hA (a0 := (n.toNat, .inl fun _ => Int32.ofInt 0)) (fun _ => rfl) nn (am_nat32 on) (by show n.toNat * 4 ≤ _; omega) (by omega) (by omega) hd (fun q cA H1 hK1 hP1 hD1 hS1 => ?_)
    have e1 : s.vm.findClass ("[" ++ FieldType.int.toString) = some cA := (hK1.2 5 (cA, .int) rfl).2
    have e2 : s.vm.findClass ("[" ++ FieldType.int.toString) = some (cs 0) := (hK.1.2 0 (cs 0, .int) rfl).2
    have e3 : cA = cs 0 := Option.some.inj (e1.symm.trans e2)
    subst e3
    exact go q H1 hP1 hD1 hS1
  · refine va_newa (atype := .long) hx hb (hts _ w1) rfl hK.1 hP hD hS hA (a0 := (n.toNat, .inr (.inl fun _ => Int64.ofInt 0))) (fun _ => rfl) nn (am_nat32 on) (by show n.toNat * 8 ≤ _; omega) (by omega) (by omega) hd (fun q cA H1 hK1 hP1 hD1 hS1 => ?_)
    have e1 : s.vm.findClass ("[" ++ FieldType.long.toString) = some cA := (hK1.2 5 (cA, .long) rfl).2
    have e2 : s.vm.findClass ("[" ++ FieldType.long.toString) = some (cs 1) := (hK.1.2 1 (cs 1, .long) rfl).2
    have e3 : cA = cs 1 := Option.some.inj (e1.symm.trans e2)
    subst e3
    exact go q H1 hP1 hD1 hS1
  · refine va_newa (atype := .byte) hx hb (hts _ w1) rfl hK.1 hP hD hS hA (a0 := (n.toNat, .inl fun _ => Int32.ofInt 0)) (fun _ => rfl) nn (am_nat32 on) (by show n.toNat * 1 ≤ _; omega) (by omega) (by omega) hd (fun q cA H1 hK1 hP1 hD1 hS1 => ?_)
    have e1 : s.vm.findClass ("[" ++ FieldType.byte.toString) = some cA := (hK1.2 5 (cA, .byte) rfl).2
    have e2 : s.vm.findClass ("[" ++ FieldType.byte.toString) = some (cs 2) := (hK.1.2 2 (cs 2, .byte) rfl).2
    have e3 : cA = cs 2 := Option.some.inj (e1.symm.trans e2)
    subst e3
    exact go q H1 hP1 hD1 hS1
theorem am_t_anew (X : am_cx p R s m args meth c D cl cs A C3 C4 nw Ts cc mL ret y d mc ms) {x1 idx : Nat} {n : Int} {C : String} (hk : (x1 = 3 ∧ C = C3) ∨ (x1 = 4 ∧ C = C4)) (w1 : Cond.classLink y.cls idx C ∈ Ts) (n0 : 0 ≤ n) (n1 : n ≤ 65536) (hcb : 1 ≤ cb) (hsb : n.toNat ≤ sb) (hd : decode cc pc = .ok (.anewarray idx, 3))
    (ih : am_G p l e R s m args below meth c D cl ft cs A ad0 mL rt mc ms r h' (pc + 3) ls (.inr (.inr (h.1.1 + 1)) :: st) (am_new h (x1, n.toNat)) (cb - 1) (sb - n.toNat)) : am_G p l e R s m args below meth c D cl ft cs A ad0 mL rt mc ms r h' pc ls (.inl n :: st) h cb sb := by
  obtain ⟨hx, hb, hml, hr, hts, hown, hlk, hnm, hK, hA, hRf, hRl, hRc, hRs⟩ := X
  intro t H locs cls cells slots hR hS hL hO h1 h2
  obtain ⟨hlen, hP, hD, hM⟩ := hR
  obtain ⟨on, hO⟩ := List.forall_mem_cons.mp hO
  have on : am_i32 n := on
  have nn : ¬ Int32.ofInt n < 0 := fun z => by rw [show (0 : Int32) = Int32.ofInt 0 from rfl, am_lt32 on am_0] at z; omega
  have go : ∀ (q : Nat) (H1 : Heap), va_P D cl (am_wl ft cs (ad0 ++ t) h ++ [(q, am_el ft cs (ad0 ++ t) (x1, n.toNat) (fun _ => 0) (fun _ => 0))]) H1 → va_D A (am_wl ft cs (ad0 ++ t) h ++ [(q, am_el ft cs (ad0 ++ t) (x1, n.toNat) (fun _ => 0) (fun _ => 0))]) → va_S A s.heap H1 locs → W p l e R s m args below meth c H1 locs (cells + 1) (slots + n.toNat) (MQ below (am_Qc D cl ft cs A ad0 rt r h') args s mc ms A) (F0 m (pc + 3) cls (.ref q :: st.map (am_cv (ad0 ++ t)))) := by
    intro q H1 hP1 hD1 hS1
    have k0 := ih (t ++ [q]) H1 locs cls (cells + 1) (slots + n.toNat) (am_RP_new hlen hM hP1 hD1) hS1 (by rw [← List.append_assoc]; exact hL.app hlen (Nat.le_succ _)) (List.forall_mem_cons.mpr ⟨Nat.le_refl _, fun v hv => am_ok_le (Nat.le_succ _) (hO v hv)⟩) (by omega) (by omega)
    rw [List.map_cons, am_new_cv hlen, ← List.append_assoc, am_st_app hlen st hO] at k0
    exact k0
  rcases hk with ⟨rfl, rfl⟩ | ⟨rfl, rfl⟩
  · refine va_newq hx hb hown (hts _ w1) hK.2.1 hK.1 hP hD hS hA nn (am_nat32 on) (by omega) (by omega) (by omega) hd (fun q cA H1 hK1 hP1 hD1 hS1 => ?_)
    obtain ⟨_, _, -, -, -, e1⟩ := (hK1.2 5 (cA, .object C) rfl).2
    obtain ⟨_, _, -, -, -, e2⟩ := (hK.1.2 3 (cs 3, .object C) rfl).2
    have e3 : cA = cs 3 := Option.some.inj (e1.symm.trans e2)
    subst e3
    exact go q H1 hP1 hD1 hS1
  · refine va_newq hx hb hown (hts _ w1) hK.2.2.1 hK.1 hP hD hS hA nn (am_nat32 on) (by omega) (by omega) (by omega) hd (fun q cA H1 hK1 hP1 hD1 hS1 => ?_)
    obtain ⟨_, _, -, -, -, e1⟩ := (hK1.2 5 (cA, .object C) rfl).2
    obtain ⟨_, _, -, -, -, e2⟩ := (hK.1.2 4 (cs 4, .object C) rfl).2
    have e3 : cA = cs 4 := Option.some.inj (e1.symm.trans e2)
    subst e3
    exact go q H1 hP1 hD1 hS1
theorem am_t_objInit (X : am_cx p R s m args meth c D cl cs A C3 C4 nw Ts cc mL ret y d mc ms) {idx k : Nat} (w1 : Cond.methodLink y.cls idx Lib.objectInit ∈ Ts) (w2 : Cond.instanceMethod Lib.objectInit ∈ Ts) (w3 : Cond.code Lib.objectInit ⟨#[0xb1]⟩ 1 none ∈ Ts) (hw : am_wds st ≤ 8) (hd : decode cc pc = .ok (.invokespecial idx, 3))
    (ih : am_G p l e R s m args below meth c D cl ft cs A ad0 mL rt mc ms r h' (pc + 3) ls st h cb sb) : am_G p l e R s m args below meth c D cl ft cs A ad0 mL rt mc ms r h' pc ls (.inr (.inr (k + 1)) :: st) h cb sb := by
  obtain ⟨hx, hb, hml, hr, hts, hown, hlk, hnm, hK, hA, hRf, hRl, hRc, hRs⟩ := X
  intro t H locs cls cells slots hR hS hL hO h1 h2
  obtain ⟨oa, hO⟩ := List.forall_mem_cons.mp hO
  have oa : k + 1 ≤ h.1.1 := oa
  have ev : am_cv (ad0 ++ t) (.inr (.inr (k + 1))) = .ref ((ad0 ++ t).getD k 0) := by show va_rf _ = _; rw [am_rv_at (by rw [hR.1]; omega)]; rfl
  have ew : ((st.map (am_cv (ad0 ++ t))).map fun v => v.category).sum = am_wds st := by
    unfold am_wds
    rw [List.map_map]
    congr 1
    apply List.map_congr_left
    intro v _
    exact am_cat_cv (ad0 ++ t) v
  rw [List.map_cons, ev]
  refine W.objInit hx hb hown (hts _ w1) (hts _ w2) (hts _ w3) rfl (hL.2.1.1.trans hml.symm) rfl hd (by omega) ?_ (ih t H locs cls cells slots hR hS hL hO h1 h2)
  show 2 * (F0 m pc cls _).monitorRoom + _ + 12 ≤ R.locals
  rw [ew]
  show 2 * 0 + _ + 12 ≤ R.locals
  omega
theorem am_wds_cv (ad : List Nat) (st : List am_v) : ((st.map (am_cv ad)).map fun v => v.category).sum = am_wds st := by
  unfold am_wds
  rw [List.map_map]
  congr 1
  apply List.map_congr_left
  intro v _
  exact am_cat_cv ad v
theorem am_t_aastore (X : am_cx p R s m args meth c D cl cs A C3 C4 nw Ts cc mL ret y d mc ms) {i : Int} {q q2 x1 ci : Nat} {r2 : vw_C} (hc : cl[ci]? = some r2) (hk : (x1 = 3 ∧ r2.1 = C3) ∨ (x1 = 4 ∧ r2.1 = C4)) (hq : q < h.1.1) (hs : (h.1.2.1 q).1 = x1) (hq2 : q2 < h.1.1) (hs2 : (h.1.2.1 q2).1 = ci + 5) (i0 : 0 ≤ i) (i1 : i < ((h.1.2.1 q).2 : Int)) (hd : decode cc pc = .ok (.aastore, 1))
    (ih : am_G p l e R s m args below meth c D cl ft cs A ad0 mL rt mc ms r h' (pc + 1) ls st ((h.1.1, h.1.2.1, am_up h.1.2.2 q i (q2 + 1)), h.2) cb sb) : am_G p l e R s m args below meth c D cl ft cs A ad0 mL rt mc ms r h' pc ls (.inr (.inr (q2 + 1)) :: .inl i :: .inr (.inr (q + 1)) :: st) h cb sb := by
  obtain ⟨hx, hb, hml, hr, hts, hown, hlk, hnm, hK, hA, hRf, hRl, hRc, hRs⟩ := X
  intro t H locs cls cells slots hR hS hL hO h1 h2
  obtain ⟨hlen, hP, hD, hM⟩ := hR
  have ev : am_cv (ad0 ++ t) (.inr (.inr (q + 1))) = .ref ((ad0 ++ t).getD q 0) := by show va_rf _ = _; rw [am_rv_at (by rw [hlen]; omega)]; rfl
  have ev2 : am_cv (ad0 ++ t) (.inr (.inr (q2 + 1))) = .ref ((ad0 ++ t).getD q2 0) := by show va_rf _ = _; rw [am_rv_at (by rw [hlen]; omega)]; rfl
  obtain ⟨ov, hO⟩ := List.forall_mem_cons.mp hO
  obtain ⟨oi, hO⟩ := List.forall_mem_cons.mp hO
  obtain ⟨oa, hO⟩ := List.forall_mem_cons.mp hO
  have he := am_wl_get (ft := ft) (cs := cs) (ad := ad0 ++ t) hq
  have he2 := am_wl_get (ft := ft) (cs := cs) (ad := ad0 ++ t) hq2
  rw [am_el_obj hs2] at he2
  obtain ⟨n, hsh⟩ : ∃ n, h.1.2.1 q = (x1, n) := ⟨(h.1.2.1 q).2, by rw [← hs]⟩
  have cm := am_cM_upr (q := q) (i := i) (v := q2 + 1) hM (by rw [hsh]; rcases hk with ⟨rfl, -⟩ | ⟨rfl, -⟩ <;> exact hq2)
  have ew := fun (el : va_E) (he : am_el ft cs (ad0 ++ t) (h.1.2.1 q) (h.2 q) (am_up h.1.2.2 q i (q2 + 1) q) = el) => am_wl_set (ft := ft) (cs := cs) (ad := ad0 ++ t) (h := h) (h' := ((h.1.1, h.1.2.1, am_up h.1.2.2 q i (q2 + 1)), h.2)) (k := q) rfl he (fun j hj => ⟨rfl, rfl, am_up_ne _ _ _ hj⟩) hq
  rw [hsh] at i1 he ew
  have ei : (Int32.ofInt i).toNatClampNeg = i.toNat := am_nat32 oi
  have e2 : am_rv (ad0 ++ t) (q2 + 1) = some ((ad0 ++ t).getD q2 0) := am_rv_at (by rw [hlen]; omega)
  rw [List.map_cons, List.map_cons, List.map_cons, ev, ev2]
  have ef : (fun j : Nat => am_rv (ad0 ++ t) (if (j : Int) = i then q2 + 1 else h.1.2.2 q (j : Int))) = va_up (fun j : Nat => am_rv (ad0 ++ t) (h.1.2.2 q (j : Int))) i.toNat (some ((ad0 ++ t).getD q2 0)) := by
    funext j
    show _ = (if j = i.toNat then _ else _)
    by_cases e : (j : Int) = i
    · rw [if_pos e, if_pos (by omega), e2]
    · rw [if_neg e, if_neg (by omega)]
  rcases hk with ⟨rfl, hk⟩ | ⟨rfl, hk⟩
  · refine va_astq hx hb hK.1 hP hD hS q 3 q2 ci he (by rw [hk]; rfl) he2 hc (am_in oi i0 i1) hd (fun H1 locs1 hP1 hD1 hS1 => ?_)
    rw [ew _ (by
      rw [am_up_self, ei]
      show Sum.inl (cs 3, n, Sum.inr (Sum.inr (Sum.inr (Sum.inr fun j : Nat => am_rv (ad0 ++ t) (if (j : Int) = i then q2 + 1 else h.1.2.2 q (j : Int)))))) = _
      rw [ef])] at hP1 hD1
    exact ih t H1 locs1 cls cells slots ⟨hlen, hP1, hD1, cm⟩ hS1 hL hO h1 h2
  · refine va_astq hx hb hK.1 hP hD hS q 4 q2 ci he (by rw [hk]; rfl) he2 hc (am_in oi i0 i1) hd (fun H1 locs1 hP1 hD1 hS1 => ?_)
    rw [ew _ (by
      rw [am_up_self, ei]
      show Sum.inl (cs 4, n, Sum.inr (Sum.inr (Sum.inr (Sum.inr fun j : Nat => am_rv (ad0 ++ t) (if (j : Int) = i then q2 + 1 else h.1.2.2 q (j : Int)))))) = _
      rw [ef])] at hP1 hD1
    exact ih t H1 locs1 cls cells slots ⟨hlen, hP1, hD1, cm⟩ hS1 hL hO h1 h2
theorem am_t_copy (X : am_cx p R s m args meth c D cl cs A C3 C4 nw Ts cc mL ret y d mc ms) {idx ka kd : Nat} {n dp sp : Int} (w1 : Cond.methodLink y.cls idx arraycopyName ∈ Ts) (w2 : Cond.native arraycopyName ∈ Ts) (w3 : Cond.static arraycopyName ∈ Ts) (w4 : Cond.initialized "java/lang/System" ∈ Ts)
    (hka : ka < h.1.1) (hkd : kd < h.1.1) (sa : (h.1.2.1 ka).1 = 0) (sd : (h.1.2.1 kd).1 = 0) (n0 : 0 ≤ n) (s0 : 0 ≤ sp) (d0 : 0 ≤ dp) (b1 : sp + n ≤ ((h.1.2.1 ka).2 : Int)) (b2 : dp + n ≤ ((h.1.2.1 kd).2 : Int)) (hw : am_wds st ≤ 8) (hnf : nativeFrameWords "java/lang/System" "arraycopy" 5 ≤ 31) (hd : decode cc pc = .ok (.invokestatic idx, 3))
    (ih : am_G p l e R s m args below meth c D cl ft cs A ad0 mL rt mc ms r h' (pc + 3) ls st (h.1, am_cpy h.2 ka kd sp dp n) cb sb) : am_G p l e R s m args below meth c D cl ft cs A ad0 mL rt mc ms r h' pc ls (.inl n :: .inl dp :: .inr (.inr (kd + 1)) :: .inl sp :: .inr (.inr (ka + 1)) :: st) h cb sb := by
  obtain ⟨hx, hb, hml, hr, hts, hown, hlk, hnm, hK, hA, hRf, hRl, hRc, hRs⟩ := X
  intro t H locs cls cells slots hR hS hL hO h1 h2
  obtain ⟨hlen, hP, hD, hM⟩ := hR
  have ev : am_cv (ad0 ++ t) (.inr (.inr (ka + 1))) = .ref ((ad0 ++ t).getD ka 0) := by show va_rf _ = _; rw [am_rv_at (by rw [hlen]; omega)]; rfl
  have ev2 : am_cv (ad0 ++ t) (.inr (.inr (kd + 1))) = .ref ((ad0 ++ t).getD kd 0) := by show va_rf _ = _; rw [am_rv_at (by rw [hlen]; omega)]; rfl
  obtain ⟨on, hO⟩ := List.forall_mem_cons.mp hO
  obtain ⟨odp, hO⟩ := List.forall_mem_cons.mp hO
  obtain ⟨-, hO⟩ := List.forall_mem_cons.mp hO
  obtain ⟨osp, hO⟩ := List.forall_mem_cons.mp hO
  obtain ⟨-, hO⟩ := List.forall_mem_cons.mp hO
  have nneg : ∀ {z : Int}, am_i32 z → 0 ≤ z → ¬ Int32.ofInt z < 0 := fun oz hz q => by rw [show (0 : Int32) = Int32.ofInt 0 from rfl, am_lt32 oz am_0] at q; omega
  have he := am_wl_get (ft := ft) (cs := cs) (ad := ad0 ++ t) hka
  have he2 := am_wl_get (ft := ft) (cs := cs) (ad := ad0 ++ t) hkd
  obtain ⟨na, ea⟩ : ∃ n, h.1.2.1 ka = (0, n) := ⟨(h.1.2.1 ka).2, by rw [← sa]⟩
  obtain ⟨nd, ed⟩ : ∃ n, h.1.2.1 kd = (0, n) := ⟨(h.1.2.1 kd).2, by rw [← sd]⟩
  have cself : am_cpy h.2 ka kd sp dp n kd = fun j => if dp ≤ j ∧ j < dp + n then h.2 ka (sp + (j - dp)) else h.2 kd j := by show (bif Nat.beq kd kd then _ else _) = _; rw [am_beq_t]; rfl
  have cne : ∀ j, j ≠ kd → am_cpy h.2 ka kd sp dp n j = h.2 j := fun j hj => by show (bif Nat.beq j kd then _ else _) = _; rw [am_beq_f hj]; rfl
  have cm : am_cM ft (h.1, am_cpy h.2 ka kd sp dp n) := by
    intro k hk j hj
    show am_tok h.1.1 (am_ty ft (h.1.2.1 k) j) (am_cpy h.2 ka kd sp dp n k j) (h.1.2.2 k j)
    by_cases e : k = kd
    · subst e
      rw [cself, ed]
      show am_i32 (if _ then _ else _)
      by_cases q : dp ≤ j ∧ j < dp + n
      · rw [if_pos q]
        have := hM ka hka (sp + (j - dp)) (by omega)
        rw [ea] at this
        exact this
      · rw [if_neg q]
        have := hM k hk j hj
        rw [ed] at this
        exact this
    · rw [cne k e]; exact hM k hk j hj
  have ew := fun (el : va_E) (he : am_el ft cs (ad0 ++ t) (h.1.2.1 kd) (am_cpy h.2 ka kd sp dp n kd) (h.1.2.2 kd) = el) => am_wl_set (ft := ft) (cs := cs) (ad := ad0 ++ t) (h := h) (h' := (h.1, am_cpy h.2 ka kd sp dp n)) (k := kd) rfl he (fun j hj => ⟨rfl, cne j hj, rfl⟩) hkd
  rw [ea] at b1 he
  rw [ed] at b2 he2 ew
  have b1 : sp + n ≤ (na : Int) := b1
  have b2 : dp + n ≤ (nd : Int) := b2
  rw [List.map_cons, List.map_cons, List.map_cons, List.map_cons, List.map_cons, ev, ev2]
  refine va_copyi hx hb (hml.trans hL.2.1.1.symm) hown (hts _ w1) (hts _ w2) (hts _ w3) (hts _ w4) hK.1 hP hD hS ka kd 0 0 he he2 rfl rfl rfl (nneg osp s0) (nneg odp d0) (nneg on n0) (by rw [am_nat32 osp, am_nat32 on]; omega) (by rw [am_nat32 odp, am_nat32 on]; omega) (fun i _ => rfl) (by omega) (by rw [am_wds_cv]; omega) hd (fun H1 locs1 hP1 hD1 hS1 => ?_)
  rw [ew _ (by
    rw [cself, am_nat32 osp, am_nat32 odp, am_nat32 on]
    show Sum.inl (cs 0, nd, Sum.inl fun j : Nat => Int32.ofInt (if dp ≤ (j : Int) ∧ (j : Int) < dp + n then h.2 ka (sp + ((j : Int) - dp)) else h.2 kd (j : Int))) = _
    congr 4
    funext j
    show _ = (if dp.toNat ≤ j ∧ j < dp.toNat + n.toNat then _ else _)
    by_cases e : dp ≤ (j : Int) ∧ (j : Int) < dp + n
    · rw [if_pos e, if_pos (by omega)]
      show _ = Int32.ofInt (h.2 ka ((sp.toNat + (j - dp.toNat) : Nat) : Int))
      rw [show ((sp.toNat + (j - dp.toNat) : Nat) : Int) = sp + ((j : Int) - dp) by omega]
    · rw [if_neg e, if_neg (by omega)])] at hP1 hD1
  exact ih t H1 locs1 cls cells slots ⟨hlen, hP1, hD1, cm⟩ hS1 hL hO h1 h2
end AM9
end
section
/-! calls and switches -/
def am_Pc (D : va_G) (cl : List vw_C) (ft : Nat → List Nat) (cs : Nat → ClassId) (A : Nat → Prop) (C3 C4 : String) (nw : List (String × Nat × MethodName × String)) (ad0 : List Nat) (as : List am_v) (h : am_h) : Array Value → State → Prop := va_Pc (as.map (am_cv ad0)) (fun U => am_RP D cl ft cs A ad0 h U.heap ∧ am_K D cl cs C3 C4 nw U ∧ ∀ q, U.heap.size ≤ q → A q)
def am_rm (d mc ms : Nat) : Room := { frames := d, cells := mc, slots := ms, locals := d * 50 }
/-- a method's contract, of one call of the small machine -/
def am_Met (l : Launch) (D : va_G) (cl : List vw_C) (ft : Nat → List Nat) (cs : Nat → ClassId) (A : Nat → Prop) (C3 C4 : String) (nw : List (String × Nat × MethodName × String)) (Ts : List Cond) (z : MethodName) (bz : ByteArray) (mLz : Nat) (retz : Option FieldType) (d rt mc ms : Nat) (as : List am_v) (h : am_h) (r : Int) (h' : am_h) : Prop :=
  ∀ ad0 : List Nat, (∀ v ∈ as, am_ok h.1.1 v) → Met l z (.code z bz mLz retz :: Ts) (am_rm d mc ms) (am_Pc D cl ft cs A C3 C4 nw ad0 as h) (am_Qc D cl ft cs A ad0 rt r h') mc ms A
theorem am_Pc_blind {D : va_G} {cl : List vw_C} {ft : Nat → List Nat} {cs : Nat → ClassId} {A : Nat → Prop} {C3 C4 : String} {nw : List (String × Nat × MethodName × String)} {ad0 : List Nat} {as : List am_v} {h : am_h} : FrameBlind (am_Pc D cl ft cs A C3 C4 nw ad0 as h) := fun a _ g mk q => ⟨q.1, q.2.1, q.2.2.1.calling g mk a, q.2.2.2⟩
def am_site (Ts : List Cond) (z : MethodName) (bz : ByteArray) (mLz : Nat) (retz : Option FieldType) (n : Nat) : Prop := Cond.initialized z.cls ∈ Ts ∧ Cond.code z bz mLz retz ∈ Ts ∧ (z.cls ≠ "java/lang/invoke/MethodHandle" ∧ z.cls ≠ "java/lang/invoke/VarHandle" ∧ (parseMethodDescriptor z.desc).map (fun d => d.parameters.length) = some n) ∧ mLz ≤ 31
def am_good (Ts : List Cond) : Prop := ∀ w ∈ Ts, (w.onTables && w.keeps) = true ∨ ∃ ty, w = .arrayClass ty
theorem am_sp_spec : ∀ (n : Nat) (acc st as s0 : List am_v), am_sp n acc st = some (as, s0) → ∃ pre, st = pre ++ s0 ∧ as = pre.reverse ++ acc ∧ pre.length = n
  | 0, acc, st, as, s0, h => by simp [am_sp] at h; exact ⟨[], by simp [h.2], by simp [h.1], rfl⟩
  | n + 1, acc, [], as, s0, h => by simp [am_sp] at h
  | n + 1, acc, v :: st, as, s0, h => by
    obtain ⟨pre, h1, h2, h3⟩ := am_sp_spec n (v :: acc) st as s0 (by simpa [am_sp] using h)
    exact ⟨v :: pre, by simp [h1], by simp [h2], by simp [h3]⟩
section AM10
variable {p : Program} {l : Launch} {e : Env} {R : Room} {s : State} {m : MethodId} {args : Array Value} {below : List Frame} {meth : Method} {c : Code}
variable {D : va_G} {cl : List vw_C} {ft : Nat → List Nat} {cs : Nat → ClassId} {A : Nat → Prop} {C3 C4 : String} {nw : List (String × Nat × MethodName × String)} {Ts : List Cond} {cc : ByteArray} {ret : Option FieldType} {y : MethodName} {d : Nat}
variable {ad0 : List Nat} {mL rt mc ms : Nat} {r : Int} {h' : am_h} {pc : Nat} {ls : am_l} {st : List am_v} {h : am_h} {cb sb : Nat}
/-- behind a call -/
theorem am_t_behind {z : MethodName} {rtz mcz msz : Nat} {r1 : Int} {h1 : am_h} {t : List Nat} {H : Heap} {locs : List Loc} {cls : Array Slot} {cells slots : Nat} {s0 : List am_v} {st0 : List Value} {a0 : Array Value}
    (hr : va_Run p l e R s m args below meth c H locs cells slots mcz msz (F0 m pc cls st0) (s0.map (am_cv (ad0 ++ t))) (am_Qc D cl ft cs A (ad0 ++ t) rtz r1 h1 a0) A)
    (hlen : (ad0 ++ t).length = h.1.1) (hS : va_S A s.heap H locs) (hL : am_LR (ad0 ++ t) h.1.1 cls mL ls) (hO : ∀ v ∈ s0, am_ok h.1.1 v) (c1 : cells + cb = mc) (c2 : slots + sb = ms) (c3 : mcz ≤ cb) (c4 : msz ≤ sb)
    (ih : am_G p l e R s m args below meth c D cl ft cs A ad0 mL rt mc ms r h' (pc + 3) ls (am_push rtz r1 s0) h1 (cb - mcz) (sb - msz)) :
    W p l e R s m args below meth c H locs cells slots (MQ below (am_Qc D cl ft cs A ad0 rt r h') args s mc ms A) (F0 m pc cls st0) := by
  intro T hT X
  obtain ⟨v, st₀, tt, T', L, h0, X', hLf, e1, e2, ⟨⟨t', hv, hRP, hrk⟩, hz, hk⟩, stp⟩ := hr T hT X
  have hv := Outcome.returned.inj hv
  subst hv
  rw [h0] at hz hk
  have hn : h.1.1 ≤ h1.1.1 := by
    have := hRP.1
    rw [List.length_append, hlen] at this
    omega
  have hO1 : ∀ v ∈ am_push rtz r1 s0, am_ok h1.1.1 v := by
    have old : ∀ v ∈ s0, am_ok h1.1.1 v := fun v hv => am_ok_le hn (hO v hv)
    match rtz, hrk with
    | 0, _ => exact old
    | 1, hrk => exact List.forall_mem_cons.mpr ⟨hrk, old⟩
    | 2, hrk => exact List.forall_mem_cons.mpr ⟨hrk, old⟩
    | 3, hrk => exact List.forall_mem_cons.mpr ⟨hrk, old⟩
    | _ + 4, hrk => exact List.forall_mem_cons.mpr ⟨hrk, old⟩
  have est : (am_rvv (ad0 ++ t ++ t') rtz r1).toList ++ s0.map (am_cv (ad0 ++ t)) = (am_push rtz r1 s0).map (am_cv (ad0 ++ (t ++ t'))) := by
    have e0 : s0.map (am_cv (ad0 ++ t)) = s0.map (am_cv (ad0 ++ (t ++ t'))) := by rw [← List.append_assoc, am_st_app hlen s0 hO]
    rw [e0, List.append_assoc]
    match rtz with
    | 0 => rfl
    | 1 => rfl
    | 2 => rfl
    | 3 => rfl
    | _ + 4 => rfl
  have k0 := ih (t ++ t') T'.heap (locs ++ L) cls (cells + mcz) (slots + msz) (by rw [← List.append_assoc, e1]; exact hRP)
    ⟨Nat.le_trans hS.1 (by rw [e1]; exact hz), fun q g1 g2 => by rw [e1, hk q (Nat.lt_of_lt_of_le g1 hS.1) g2]; exact hS.2.1 q g1 g2, fun q hq => by
      rcases List.mem_append.mp hq with g | g
      · exact hS.2.2 q g
      · exact hLf q g⟩
    (by rw [← List.append_assoc]; exact hL.app hlen hn) hO1 (by omega) (by omega)
  rw [← est] at k0
  obtain ⟨t2, a1, b1⟩ := k0 T' rfl X'
  exact ⟨t2, stp t2 a1, b1⟩
theorem am_goodIn (hG : am_good Ts) {ws : List Cond} (hw : ∀ w ∈ ws, w ∈ Ts) : GoodIn Ts ws := fun w h => ⟨hw w h, hG w (hw w h)⟩
theorem am_roomOK {d mcz msz mLz : Nat} (hRf : R.frames = d + 1) (hRl : R.locals = (d + 1) * 50) (h : mLz ≤ 31) : (am_rm d mcz msz).frames + 1 ≤ R.frames ∧ 8 + (mLz + 11) + (am_rm d mcz msz).locals ≤ R.locals := by
  refine ⟨by show d + 1 ≤ _; omega, ?_⟩
  show 8 + (mLz + 11) + d * 50 ≤ R.locals
  rw [hRl]
  omega
theorem am_isR_spec {g : am_g} {x : Nat} {as : List am_v} (h : am_isR g x as = true) : ∃ k As, as = .inr (.inr (k + 1)) :: As ∧ k < g.1 ∧ (g.2.1 k).1 = x := by
  unfold am_isR at h
  split at h
  · rw [Bool.and_eq_true] at h
    exact ⟨_, _, rfl, Nat.le_of_ble_eq_true h.1, Nat.eq_of_beq_eq_true h.2⟩
  · cases h
theorem am_t_callV (X : am_cx p R s m args meth c D cl cs A C3 C4 nw Ts cc mL ret y d mc ms) (hG : am_good Ts) {z : MethodName} {bz : ByteArray} {mLz : Nat} {retz : Option FieldType} {idx n rtz mcz msz ci : Nat} {r1 : Int} {h1 : am_h} {as s0 : List am_v} {T : u_T} {N : Nat}
    (hc : cl[ci]? = some (z.cls, T, N)) (hs : am_site Ts z bz mLz retz n) (w1 : Cond.methodLink y.cls idx z ∈ Ts) (w2 : Cond.instanceMethod z ∈ Ts) (w3 : Cond.selects z.cls z z ∈ Ts) (hsp : am_sp (n + 1) [] st = some (as, s0)) (hi : am_isR h.1 (ci + 5) as = true) (hw : am_wds s0 ≤ 8) (c3 : mcz ≤ cb) (c4 : msz ≤ sb)
    (hM : am_Met l D cl ft cs A C3 C4 nw Ts z bz mLz retz d rtz mcz msz as h r1 h1) (hd : decode cc pc = .ok (.invokevirtual idx, 3))
    (ih : am_G p l e R s m args below meth c D cl ft cs A ad0 mL rt mc ms r h' (pc + 3) ls (am_push rtz r1 s0) h1 (cb - mcz) (sb - msz)) : am_G p l e R s m args below meth c D cl ft cs A ad0 mL rt mc ms r h' pc ls st h cb sb := by
  obtain ⟨hx, hb, hml, hr, hts, hown, hlk, hnm, hK, hA, hRf, hRl, hRc, hRs⟩ := X
  intro t H locs cls cells slots hR hS hL hO c1 c2
  obtain ⟨pre, e1, e2, e3⟩ := am_sp_spec _ _ _ _ _ hsp
  obtain ⟨k, As, e4, hk, hkk⟩ := am_isR_spec hi
  rw [List.append_nil] at e2
  have ev : am_cv (ad0 ++ t) (.inr (.inr (k + 1))) = .ref ((ad0 ++ t).getD k 0) := by show va_rf _ = _; rw [am_rv_at (by rw [hR.1]; omega)]; rfl
  have est : st.map (am_cv (ad0 ++ t)) = (As.map (am_cv (ad0 ++ t))).reverse ++ .ref ((ad0 ++ t).getD k 0) :: s0.map (am_cv (ad0 ++ t)) := by
    have e5 : pre = As.reverse ++ [.inr (.inr (k + 1))] := by
      have := congrArg List.reverse (e2.symm.trans e4)
      simpa using this
    rw [e1, e5, List.map_append, List.map_append, List.map_reverse]
    simp [ev]
  have hOas : ∀ v ∈ as, am_ok h.1.1 v := fun v hv => hO v (by rw [e1]; exact List.mem_append_left _ (by rw [e2] at hv; exact List.mem_reverse.mp hv))
  have hO0 : ∀ v ∈ s0, am_ok h.1.1 v := fun v hv => hO v (by rw [e1]; exact List.mem_append_right _ hv)
  have hAs : (As.map (am_cv (ad0 ++ t))).length = n := by
    rw [List.length_map]
    have := congrArg List.length (e2.symm.trans e4)
    simp at this
    omega
  obtain ⟨s1, s2, s3, s4⟩ := hs
  have hG2 : GoodIn Ts (wsV y.cls idx z.cls z (.code z bz mLz retz :: Ts)) := am_goodIn hG (fun w hw => by
    unfold wsV at hw
    rcases List.mem_append.mp hw with q | q
    · simp only [List.mem_cons, List.mem_nil_iff, or_false] at q
      rcases q with rfl | rfl | rfl | rfl
      · exact w1
      · exact w2
      · exact w3
      · exact s1
    · rcases List.mem_cons.mp q with rfl | q
      · exact s2
      · exact q)
  have cw := cwV (R := R) (rm := am_rm d mcz msz) (mc := mcz) (ms := msz) n hts hG2 rfl rfl rfl ⟨rfl, s3⟩ (am_roomOK hRf hRl s4)
  have hrun := va_runV (rest := s0.map (am_cv (ad0 ++ t))) (g := F0 m pc cls (st.map (am_cv (ad0 ++ t)))) (locs := locs) (cells := cells) (slots := slots) (e := e) (below := below) (meth := meth) ⟨hx, hb, hml, hown, hts⟩ (hM (ad0 ++ t) hOas) cw (H := H) (b := (ad0 ++ t).getD k 0) (As := As.map (am_cv (ad0 ++ t))) ⟨am_Pc_blind, va_recv hK.1 hR.2.1 hc (by have := am_wl_get (ft := ft) (cs := cs) (ad := ad0 ++ t) hk; rw [am_el_obj hkk] at this; exact this), fun U hU hW => ⟨by rw [e4, List.map_cons, ev], by rw [hU]; exact hR, hK.warm hW, fun q hq => by rw [hU] at hq; exact hA q (Nat.le_trans hS.1 hq)⟩⟩ rfl hAs (hL.2.1.1) est (lv_room (by rw [am_wds_cv]; exact hw)) hd ⟨by omega, by omega⟩
  exact am_t_behind (z := z) hrun hR.1 hS hL hO0 c1 c2 c3 c4 ih
theorem am_t_callS (X : am_cx p R s m args meth c D cl cs A C3 C4 nw Ts cc mL ret y d mc ms) (hG : am_good Ts) {z : MethodName} {bz : ByteArray} {mLz : Nat} {retz : Option FieldType} {idx n rtz mcz msz : Nat} {r1 : Int} {h1 : am_h} {as s0 : List am_v}
    (hs : am_site Ts z bz mLz retz n) (w1 : Cond.methodLink y.cls idx z ∈ Ts) (w2 : Cond.static z ∈ Ts) (hsp : am_sp n [] st = some (as, s0)) (hw : am_wds s0 ≤ 8) (c3 : mcz ≤ cb) (c4 : msz ≤ sb)
    (hM : am_Met l D cl ft cs A C3 C4 nw Ts z bz mLz retz d rtz mcz msz as h r1 h1) (hd : decode cc pc = .ok (.invokestatic idx, 3))
    (ih : am_G p l e R s m args below meth c D cl ft cs A ad0 mL rt mc ms r h' (pc + 3) ls (am_push rtz r1 s0) h1 (cb - mcz) (sb - msz)) : am_G p l e R s m args below meth c D cl ft cs A ad0 mL rt mc ms r h' pc ls st h cb sb := by
  obtain ⟨hx, hb, hml, hr, hts, hown, hlk, hnm, hK, hA, hRf, hRl, hRc, hRs⟩ := X
  intro t H locs cls cells slots hR hS hL hO c1 c2
  obtain ⟨pre, e1, e2, e3⟩ := am_sp_spec _ _ _ _ _ hsp
  rw [List.append_nil] at e2
  have est : st.map (am_cv (ad0 ++ t)) = (as.map (am_cv (ad0 ++ t))).reverse ++ s0.map (am_cv (ad0 ++ t)) := by
    rw [e1, e2, List.map_append, List.map_reverse, List.reverse_reverse]
  have hOas : ∀ v ∈ as, am_ok h.1.1 v := fun v hv => hO v (by rw [e1]; exact List.mem_append_left _ (by rw [e2] at hv; exact List.mem_reverse.mp hv))
  have hO0 : ∀ v ∈ s0, am_ok h.1.1 v := fun v hv => hO v (by rw [e1]; exact List.mem_append_right _ hv)
  have hAs : (as.map (am_cv (ad0 ++ t))).length = n := by rw [List.length_map, e2, List.length_reverse]; exact e3
  obtain ⟨s1, s2, s3, s4⟩ := hs
  have hG2 : GoodIn Ts (.code z bz mLz retz :: Ts) := am_goodIn hG (fun w hw => by
    rcases List.mem_cons.mp hw with rfl | q
    · exact s2
    · exact q)
  have cb0 := callB_of (R := R) (rm := am_rm d mcz msz) (mc := mcz) (ms := msz) n hts hG2 rfl rfl rfl (hts _ s1) (hts _ w1) s3 (am_roomOK hRf hRl s4)
  have hrun := va_runS (rest := s0.map (am_cv (ad0 ++ t))) (g := F0 m pc cls (st.map (am_cv (ad0 ++ t)))) (locs := locs) (cells := cells) (slots := slots) (e := e) (below := below) (meth := meth) ⟨hx, hb, hml, hown, hts⟩ (hM (ad0 ++ t) hOas) ⟨cb0, hts _ w2⟩ (H := H) (As := as.map (am_cv (ad0 ++ t))) ⟨am_Pc_blind, fun U hU hW => ⟨rfl, by rw [hU]; exact hR, hK.warm hW, fun q hq => by rw [hU] at hq; exact hA q (Nat.le_trans hS.1 hq)⟩⟩ rfl hAs (hL.2.1.1) est (lv_room (by rw [am_wds_cv]; exact hw)) hd ⟨by omega, by omega⟩
  exact am_t_behind (z := z) hrun hR.1 hS hL hO0 c1 c2 c3 c4 ih
theorem am_t_callI (X : am_cx p R s m args meth c D cl cs A C3 C4 nw Ts cc mL ret y d mc ms) (hG : am_good Ts) {z : MethodName} {bz : ByteArray} {mLz : Nat} {idx n rtz mcz msz ci : Nat} {host : String} {r1 : Int} {h1 : am_h} {as s0 : List am_v}
    (hs : am_site Ts z bz mLz none n) (hz : z.name = "<init>") (w1 : Cond.methodLink y.cls idx z ∈ Ts ∨ (y.cls, idx, z, host) ∈ nw) (w2 : Cond.instanceMethod z ∈ Ts) (hsp : am_sp (n + 1) [] st = some (as, s0)) (hi : am_isR h.1 (ci + 5) as = true) (hw : am_wds s0 ≤ 8) (c3 : mcz ≤ cb) (c4 : msz ≤ sb)
    (hM : am_Met l D cl ft cs A C3 C4 nw Ts z bz mLz none d rtz mcz msz as h r1 h1) (hd : decode cc pc = .ok (.invokespecial idx, 3))
    (ih : am_G p l e R s m args below meth c D cl ft cs A ad0 mL rt mc ms r h' (pc + 3) ls (am_push rtz r1 s0) h1 (cb - mcz) (sb - msz)) : am_G p l e R s m args below meth c D cl ft cs A ad0 mL rt mc ms r h' pc ls st h cb sb := by
  obtain ⟨hx, hb, hml, hr, hts, hown, hlk, hnm, hK, hA, hRf, hRl, hRc, hRs⟩ := X
  intro t H locs cls cells slots hR hS hL hO c1 c2
  obtain ⟨pre, e1, e2, e3⟩ := am_sp_spec _ _ _ _ _ hsp
  obtain ⟨k, As, e4, hk, hkk⟩ := am_isR_spec hi
  rw [List.append_nil] at e2
  have ev : am_cv (ad0 ++ t) (.inr (.inr (k + 1))) = .ref ((ad0 ++ t).getD k 0) := by show va_rf _ = _; rw [am_rv_at (by rw [hR.1]; omega)]; rfl
  have est : st.map (am_cv (ad0 ++ t)) = (As.map (am_cv (ad0 ++ t))).reverse ++ .ref ((ad0 ++ t).getD k 0) :: s0.map (am_cv (ad0 ++ t)) := by
    have e5 : pre = As.reverse ++ [.inr (.inr (k + 1))] := by
      have := congrArg List.reverse (e2.symm.trans e4)
      simpa using this
    rw [e1, e5, List.map_append, List.map_append, List.map_reverse]
    simp [ev]
  have hOas : ∀ v ∈ as, am_ok h.1.1 v := fun v hv => hO v (by rw [e1]; exact List.mem_append_left _ (by rw [e2] at hv; exact List.mem_reverse.mp hv))
  have hO0 : ∀ v ∈ s0, am_ok h.1.1 v := fun v hv => hO v (by rw [e1]; exact List.mem_append_right _ hv)
  have hAs : (As.map (am_cv (ad0 ++ t))).length = n := by
    rw [List.length_map]
    have := congrArg List.length (e2.symm.trans e4)
    simp at this
    omega
  obtain ⟨s1, s2, s3, s4⟩ := hs
  have hG2 : GoodIn Ts (.code z bz mLz none :: Ts) := am_goodIn hG (fun w hw => by
    rcases List.mem_cons.mp hw with rfl | q
    · exact s2
    · exact q)
  have hpre : PreS s H (am_Pc D cl ft cs A C3 C4 nw (ad0 ++ t) as h) (.ref ((ad0 ++ t).getD k 0) :: As.map (am_cv (ad0 ++ t))) := ⟨am_Pc_blind, fun U hU hW => ⟨by rw [e4, List.map_cons, ev], by rw [hU]; exact hR, hK.warm hW, fun q hq => by rw [hU] at hq; exact hA q (Nat.le_trans hS.1 hq)⟩⟩
  rcases w1 with w1 | w1
  · have cb0 := callB_of (R := R) (rm := am_rm d mcz msz) (mc := mcz) (ms := msz) n hts hG2 rfl rfl rfl (hts _ s1) (hts _ w1) s3 (am_roomOK hRf hRl s4)
    have hrun := va_runI (rest := s0.map (am_cv (ad0 ++ t))) (g := F0 m pc cls (st.map (am_cv (ad0 ++ t)))) (locs := locs) (cells := cells) (slots := slots) (e := e) (below := below) (meth := meth) ⟨hx, hb, hml, hown, hts⟩ (hM (ad0 ++ t) hOas) ⟨cb0, hz, hts _ w2⟩ (H := H) (b := (ad0 ++ t).getD k 0) (As := As.map (am_cv (ad0 ++ t))) hpre rfl hAs (hL.2.1.1) est (lv_room (by rw [am_wds_cv]; exact hw)) hd ⟨by omega, by omega⟩
    exact am_t_behind (z := z) hrun hR.1 hS hL hO0 c1 c2 c3 c4 ih
  · have cn0 := va_cnB (R := R) (rm := am_rm d mcz msz) (mc := mcz) (ms := msz) n hts hG2 rfl rfl rfl (hK.2.2.2 _ w1) (hts _ s1) s3 (am_roomOK hRf hRl s4)
    have hrun := va_runIN (rest := s0.map (am_cv (ad0 ++ t))) (g := F0 m pc cls (st.map (am_cv (ad0 ++ t)))) (locs := locs) (cells := cells) (slots := slots) (e := e) (below := below) (meth := meth) ⟨hx, hb, hml, hown, hts⟩ (hM (ad0 ++ t) hOas) ⟨cn0, hz, hts _ w2⟩ (H := H) (b := (ad0 ++ t).getD k 0) (As := As.map (am_cv (ad0 ++ t))) hpre rfl hAs (hL.2.1.1) est (lv_room (by rw [am_wds_cv]; exact hw)) hd ⟨by omega, by omega⟩
    exact am_t_behind (z := z) hrun hR.1 hS hL hO0 c1 c2 c3 c4 ih
/-- where a switch goes -/
def am_to (x : Int) (d : Nat) : List (Int × Nat) → Nat
  | [] => d
  | (a, t) :: l => if x = a then t else am_to x d l
theorem am_sw_to {α : Type} (x : Int) (k : Nat → α) (d : Nat) : ∀ l, am_sw x k d l = k (am_to x d l)
  | [] => rfl
  | (a, t) :: l => by
    unfold am_sw am_to
    by_cases h : x = a
    · rw [if_pos h, if_pos h]
    · rw [if_neg h, if_neg h, am_sw_to x k d l]
def am_tsOK (pc : Nat) : Int → List Int → List (Int × Nat) → Prop
  | _, [], [] => True
  | lo, o :: os, (a, t) :: l => a = lo ∧ (pc : Int) + o = (t : Int) ∧ am_tsOK pc (lo + 1) os l
  | _, _, _ => False
theorem am_ts_in {pc : Nat} {x : Int} (dflt : Nat) : ∀ (os : List Int) (lo : Int) (l : List (Int × Nat)), am_tsOK pc lo os l → lo ≤ x → x < lo + os.length → ∃ o, os[(x - lo).toNat]? = some o ∧ (pc : Int) + o = (am_to x dflt l : Int)
  | [], lo, [], _, h1, h2 => by simp at h2; omega
  | o :: os, lo, (a, t) :: l, h, h1, h2 => by
    obtain ⟨e1, e2, e3⟩ := h
    subst e1
    unfold am_to
    by_cases hx : x = a
    · subst hx
      exact ⟨o, by simp, by rw [if_pos rfl]; exact e2⟩
    · obtain ⟨o', g1, g2⟩ := am_ts_in (x := x) dflt os (a + 1) l e3 (by omega) (by simp at h2; omega)
      refine ⟨o', ?_, by rw [if_neg hx]; exact g2⟩
      rw [show (x - a).toNat = (x - (a + 1)).toNat + 1 by omega]
      simpa using g1
theorem am_ts_out {pc : Nat} {x : Int} (dflt : Nat) : ∀ (os : List Int) (lo : Int) (l : List (Int × Nat)), am_tsOK pc lo os l → (x < lo ∨ lo + os.length ≤ x) → am_to x dflt l = dflt
  | [], lo, [], _, _ => rfl
  | o :: os, lo, (a, t) :: l, h, h1 => by
    obtain ⟨e1, e2, e3⟩ := h
    subst e1
    unfold am_to
    rw [if_neg (by simp at h1; omega)]
    exact am_ts_out dflt os (a + 1) l e3 (by simp at h1; omega)
theorem am_t_tsw (X : am_cx p R s m args meth c D cl cs A C3 C4 nw Ts cc mL ret y d mc ms) {x dflt lo hi : Int} {offs : Array Int} {len x1 : Nat} {ts : List (Int × Nat)} (hd : decode cc pc = .ok (.tableswitch dflt lo hi offs, len)) (h1 : am_tsOK pc lo offs.toList ts) (h2 : hi + 1 = lo + offs.size) (h3 : (pc : Int) + dflt = (x1 : Int))
    (ih : am_G p l e R s m args below meth c D cl ft cs A ad0 mL rt mc ms r h' (am_to x x1 ts) ls st h cb sb) : am_G p l e R s m args below meth c D cl ft cs A ad0 mL rt mc ms r h' pc ls (.inl x :: st) h cb sb := by
  obtain ⟨hx, hb, hml, hr, hts, hown, hlk, hnm, hK, hA, hRf, hRl, hRc, hRs⟩ := X
  intro t H locs cls cells slots hR hS hL hO c1 c2
  obtain ⟨ox, hO⟩ := List.forall_mem_cons.mp hO
  have ex : (Int32.ofInt x).toInt = x := am_to32 ox
  have hl : (offs.toList.length : Int) = offs.size := by simp
  by_cases q : x < lo ∨ hi < x
  · have e1 := am_ts_out (x := x) x1 offs.toList lo ts h1 (by omega)
    rw [e1] at ih
    exact lv_tableOut hx hb hd (by rw [ex]; exact q) h3 (ih t H locs cls cells slots hR hS hL hO c1 c2)
  · obtain ⟨o, g1, g2⟩ := am_ts_in (x := x) x1 offs.toList lo ts h1 (by omega) (by omega)
    exact lv_tableIn hx hb hd (by rw [ex]; omega) (by rw [ex]; omega) (by rw [ex]; simpa using g1) g2 (ih t H locs cls cells slots hR hS hL hO c1 c2)
def am_lsOK (pc : Nat) : List (Int × Int) → List (Int × Nat) → Prop
  | [], [] => True
  | (a, o) :: os, (b, t) :: l => a = b ∧ (pc : Int) + o = (t : Int) ∧ am_lsOK pc os l
  | _, _ => False
theorem am_ls_to {pc : Nat} {x dflt : Int} {x1 : Nat} (h3 : (pc : Int) + dflt = (x1 : Int)) : ∀ (os : List (Int × Int)) (l : List (Int × Nat)), am_lsOK pc os l → (pc : Int) + Op.lookupswitch.offset os dflt x = (am_to x x1 l : Int)
  | [], [], _ => h3
  | (a, o) :: os, (b, t) :: l, h => by
    obtain ⟨e1, e2, e3⟩ := h
    subst e1
    unfold am_to Op.lookupswitch.offset
    have ih := am_ls_to (x := x) h3 os l e3
    by_cases q : x = a
    · subst q
      rw [if_pos rfl, if_pos rfl]; exact e2
    · rw [if_neg (fun z => q z.symm), if_neg q]; exact ih
theorem am_t_lsw (X : am_cx p R s m args meth c D cl cs A C3 C4 nw Ts cc mL ret y d mc ms) {x dflt : Int} {ps : Array (Int × Int)} {len x1 : Nat} {ts : List (Int × Nat)} (hd : decode cc pc = .ok (.lookupswitch dflt ps, len)) (h1 : am_lsOK pc ps.toList ts) (h2 : (ps.toList.zip (ps.toList.drop 1)).all (fun (a, next) => a.1 < next.1) = true) (h3 : (pc : Int) + dflt = (x1 : Int))
    (ih : am_G p l e R s m args below meth c D cl ft cs A ad0 mL rt mc ms r h' (am_to x x1 ts) ls st h cb sb) : am_G p l e R s m args below meth c D cl ft cs A ad0 mL rt mc ms r h' pc ls (.inl x :: st) h cb sb := by
  obtain ⟨hx, hb, hml, hr, hts, hown, hlk, hnm, hK, hA, hRf, hRl, hRc, hRs⟩ := X
  intro t H locs cls cells slots hR hS hL hO c1 c2
  obtain ⟨ox, hO⟩ := List.forall_mem_cons.mp hO
  have ex : (Int32.ofInt x).toInt = x := am_to32 ox
  exact lv_lookup hx hb hd h2 rfl (by rw [ex]; exact am_ls_to h3 ps.toList ts h1) (ih t H locs cls cells slots hR hS hL hO c1 c2)
end AM10
end
section
/-! the checks of an entry -/
def am_len : Instr → Nat
  | .iload _ | .lload _ | .aload _ | .istore _ | .lstore _ | .astore _ | .bipush _ | .ldc _ | .newarray _ => 2
  | .iinc _ _ | .sipush _ | .ldc_w _ | .ldc2_w _ | .getfield _ | .putfield _ | .goto _ | .ifCond _ _ | .if_icmp _ _ | .new _ | .anewarray _ | .invokevirtual _ | .invokespecial _ | .invokestatic _ => 3
  | _ => 1
/-- the tables of a program: code, names, bytes, answers; kind, parameters, class of a method; links by class -/
abbrev am_T : Type := (Nat → Option am_m) × (Nat → MethodName) × (Nat → ByteArray) × (Nat → Option FieldType) × (Nat → Nat × Nat × Nat) × (Nat → String) × (Nat → Nat)
  × (Nat → List (Nat × Nat × Nat)) × (Nat → List (Nat × Nat)) × (Nat → List (Nat × Nat)) × (Nat → List (Nat × Nat)) × (Nat → List (Nat × Int)) × (Nat → List (Nat × Int)) × (Nat → List Nat) × (Nat → List Nat) × (Nat → List (Nat × Nat))
def am_T.P (t : am_T) := t.1
def am_T.nm (t : am_T) := t.2.1
def am_T.bz (t : am_T) := t.2.2.1
def am_T.rT (t : am_T) := t.2.2.2.1
def am_T.mi (t : am_T) := t.2.2.2.2.1
def am_T.cn (t : am_T) := t.2.2.2.2.2.1
def am_T.oc (t : am_T) := t.2.2.2.2.2.2.1
/-- fields: index, class, field -/
def am_T.FL (t : am_T) := t.2.2.2.2.2.2.2.1
/-- methods: index, method -/
def am_T.ML (t : am_T) := t.2.2.2.2.2.2.2.2.1
/-- classes for new -/
def am_T.CL (t : am_T) := t.2.2.2.2.2.2.2.2.2.1
/-- classes for anewarray: index, kind -/
def am_T.AL (t : am_T) := t.2.2.2.2.2.2.2.2.2.2.1
def am_T.KI (t : am_T) := t.2.2.2.2.2.2.2.2.2.2.2.1
def am_T.KL (t : am_T) := t.2.2.2.2.2.2.2.2.2.2.2.2.1
/-- links to Object's constructor, to arraycopy -/
def am_T.OI (t : am_T) := t.2.2.2.2.2.2.2.2.2.2.2.2.2.1
def am_T.AC (t : am_T) := t.2.2.2.2.2.2.2.2.2.2.2.2.2.2.1
/-- links to a nest mate's constructor: index, method -/
def am_T.NL (t : am_T) := t.2.2.2.2.2.2.2.2.2.2.2.2.2.2.2
def am_pOK (t : am_T) (x1 x3 x4 x5 : Nat) : Bool := match t.P x1 with
  | some (_, _, a, b, c) => Nat.beq a x3 && Nat.beq b x4 && Nat.beq c x5
  | none => false
def am_i32b (v : Int) : Bool := decide (-2147483648 ≤ v) && decide (v < 2147483648)
def am_i64b (v : Int) : Bool := decide (-9223372036854775808 ≤ v) && decide (v < 9223372036854775808)
def am_tsb (pc : Nat) : Int → List Int → List (Int × Nat) → Bool
  | _, [], [] => true
  | lo, o :: os, (a, t) :: l => decide (a = lo) && decide ((pc : Int) + o = (t : Int)) && am_tsb pc (lo + 1) os l
  | _, _, _ => false
theorem am_tsb_ok {pc : Nat} : ∀ (os : List Int) (lo : Int) (l : List (Int × Nat)), am_tsb pc lo os l = true → am_tsOK pc lo os l
  | [], _, [], _ => trivial
  | o :: os, lo, (a, t) :: l, h => by
    simp only [am_tsb, Bool.and_eq_true, decide_eq_true_eq] at h
    exact ⟨h.1.1, h.1.2, am_tsb_ok os (lo + 1) l h.2⟩
def am_lsb (pc : Nat) : List (Int × Int) → List (Int × Nat) → Bool
  | [], [] => true
  | (a, o) :: os, (b, t) :: l => decide (a = b) && decide ((pc : Int) + o = (t : Int)) && am_lsb pc os l
  | _, _ => false
theorem am_lsb_ok {pc : Nat} : ∀ (os : List (Int × Int)) (l : List (Int × Nat)), am_lsb pc os l = true → am_lsOK pc os l
  | [], [], _ => trivial
  | (a, o) :: os, (b, t) :: l, h => by
    simp only [am_lsb, Bool.and_eq_true, decide_eq_true_eq] at h
    exact ⟨h.1.1, h.1.2, am_lsb_ok os l h.2⟩
/-- what is checked of an entry beside its decoding -/
def am_eX (t : am_T) (ft : Nat → List Nat) (fin : Nat → Nat → Bool) (e3 e4 oci o mL pc : Nat) (ini : Bool) (E : am_e) : Bool := match E with
  | (ins, nx, v, x1, x2, x3, x4, x5, ts) => match ins with
    | .iload k | .lload k | .aload k => Nat.beq x1 k
    | .iload_n k | .lload_n k | .aload_n k => Nat.beq x1 k.val
    | .istore k | .astore k => Nat.beq x1 k && Nat.blt k mL
    | .istore_n k | .astore_n k => Nat.beq x1 k.val && Nat.blt k.val mL
    | .lstore k => Nat.beq x1 k && Nat.blt (k + 1) mL
    | .lstore_n k => Nat.beq x1 k.val && Nat.blt (k.val + 1) mL
    | .iinc k _ => Nat.beq x1 k && Nat.blt k mL
    | .iconst n => decide (Int32.ofInt n = Int32.ofInt v) && am_i32b v
    | .bipush n => decide ((Int8.ofInt n).toInt32 = Int32.ofInt v) && am_i32b v
    | .sipush n => decide ((Int16.ofInt n).toInt32 = Int32.ofInt v) && am_i32b v
    | .lconst n => decide (Int64.ofNat n.val = Int64.ofInt v) && am_i64b v
    | .ldc k | .ldc_w k => decide ((k, v) ∈ t.KI o) && am_i32b v
    | .ldc2_w k => decide ((k, v) ∈ t.KL o) && am_i64b v
    | .getfield k => decide ((k, x1, x2) ∈ t.FL o) && decide ((ft x1)[x2]? = some x3)
    | .putfield k => decide ((k, x1, x2) ∈ t.FL o) && decide ((ft x1)[x2]? = some x3) && (!fin x1 x2 || (ini && Nat.beq x1 oci))
    | .aaload => Nat.beq x1 3 || Nat.beq x1 4
    | .aastore => (Nat.beq x1 3 && Nat.beq x2 e3) || (Nat.beq x1 4 && Nat.beq x2 e4)
    | .goto f => decide ((pc : Int) + f = (x1 : Int))
    | .ifCond _ f | .if_icmp _ f => decide ((pc : Int) + f = (x1 : Int))
    | .tableswitch df lo hi offs => am_tsb pc lo offs.toList ts && decide (hi + 1 = lo + offs.size) && decide ((pc : Int) + df = (x1 : Int))
    | .lookupswitch df ps => am_lsb pc ps.toList ts && (ps.toList.zip (ps.toList.drop 1)).all (fun (a, next) => a.1 < next.1) && decide ((pc : Int) + df = (x1 : Int))
    | .new k => decide ((k, x1) ∈ t.CL o) && Nat.beq x2 (ft x1).length
    | .newarray a => (Nat.beq x1 0 && decide (a = .int)) || (Nat.beq x1 1 && decide (a = .long)) || (Nat.beq x1 2 && decide (a = .byte))
    | .anewarray k => decide ((k, x1) ∈ t.AL o)
    | .invokevirtual k => decide ((k, x1) ∈ t.ML o) && am_pOK t x1 x3 x4 x5 && Nat.beq (t.mi x1).1 0 && Nat.beq x2 ((t.mi x1).2.1 + 1) && Nat.beq v.toNat (t.mi x1).2.2
    | .invokestatic k => (match v with
      | 1 => decide (k ∈ t.AC o)
      | _ => decide ((k, x1) ∈ t.ML o) && am_pOK t x1 x3 x4 x5 && Nat.beq (t.mi x1).1 1 && Nat.beq x2 (t.mi x1).2.1)
    | .invokespecial k => (match v with
      | 2 => decide (k ∈ t.OI o)
      | _ => (decide ((k, x1) ∈ t.ML o) || decide ((k, x1) ∈ t.NL o)) && am_pOK t x1 x3 x4 x5 && Nat.beq (t.mi x1).1 2 && Nat.beq x2 ((t.mi x1).2.1 + 1) && Nat.ble 3 v.toNat)
    | _ => true
def am_isSw : Instr → Bool
  | .tableswitch _ _ _ _ | .lookupswitch _ _ => true
  | _ => false
def am_eD (cc : ByteArray) (pc : Nat) (E : am_e) : Bool := decide (decode cc pc = .ok (E.1, E.2.1 - pc)) && Nat.blt pc E.2.1 && (am_isSw E.1 || Nat.beq E.2.1 (pc + am_len E.1))
def am_rtOK (rt : Nat) (ret : Option FieldType) : Prop := match rt with
  | 0 => ret = none
  | 1 => ret = some .int
  | 2 => ret = some .long
  | 3 => ∃ C, ret = some (.object C)
  | 4 => ret = some .boolean
  | _ => False
/-- what is known of a program's tables -/
def am_TOK (Ts : List Cond) (cl : List vw_C) (ft : Nat → List Nat) (nw : List (String × Nat × MethodName × String)) (C3 C4 : String) (fin : Nat → Nat → Bool) (e3 e4 : Nat) (oci : Nat → Nat) (t : am_T) : Prop :=
  (∀ o k c f, (k, c, f) ∈ t.FL o → ∃ (C : String) (T : u_T) (N : Nat), cl[c]? = some (C, T, N) ∧ Cond.fieldLink (t.cn o) k (T f).1 (T f).2.1 (T f).2.2.1 ∈ Ts ∧ fin c f = (T f).2.2.2 ∧ (T f).1 = C)
  ∧ (∀ o k z, (k, z) ∈ t.ML o → Cond.methodLink (t.cn o) k (t.nm z) ∈ Ts)
  ∧ (∀ o k z, (k, z) ∈ t.NL o → ∃ host, (t.cn o, k, t.nm z, host) ∈ nw)
  ∧ (∀ o k c, (k, c) ∈ t.CL o → ∃ (C : String) (T : u_T) (N : Nat), cl[c]? = some (C, T, N) ∧ Cond.classLink (t.cn o) k C ∈ Ts ∧ Cond.instantiable C N ∈ Ts ∧ Cond.initialized C ∈ Ts)
  ∧ (∀ o k x, (k, x) ∈ t.AL o → (x = 3 ∧ Cond.classLink (t.cn o) k C3 ∈ Ts) ∨ (x = 4 ∧ Cond.classLink (t.cn o) k C4 ∈ Ts))
  ∧ (∀ o k v, (k, v) ∈ t.KI o → Cond.constant (t.cn o) k (Int32.ofInt v) ∈ Ts)
  ∧ (∀ o k v, (k, v) ∈ t.KL o → Cond.constantLong (t.cn o) k (Int64.ofInt v) ∈ Ts)
  ∧ (∀ o k, k ∈ t.OI o → Cond.methodLink (t.cn o) k Lib.objectInit ∈ Ts ∧ Cond.instanceMethod Lib.objectInit ∈ Ts ∧ Cond.code Lib.objectInit ⟨#[0xb1]⟩ 1 none ∈ Ts)
  ∧ (∀ o k, k ∈ t.AC o → Cond.methodLink (t.cn o) k arraycopyName ∈ Ts ∧ Cond.native arraycopyName ∈ Ts ∧ Cond.static arraycopyName ∈ Ts ∧ Cond.initialized "java/lang/System" ∈ Ts)
  ∧ nativeFrameWords "java/lang/System" "arraycopy" 5 ≤ 31
  ∧ (Cond.arrayClass .int ∈ Ts ∧ Cond.arrayClass .long ∈ Ts ∧ Cond.arrayClass .byte ∈ Ts)
  ∧ (∃ T N, cl[e3]? = some (C3, T, N)) ∧ (∃ T N, cl[e4]? = some (C4, T, N))
  ∧ (∀ o c, oci o = c → ∀ C T N, cl[c]? = some (C, T, N) → C = t.cn o)
  ∧ am_clOK Ts cl ft ∧ am_good Ts
  ∧ ∀ z cd mL rt mc ms, t.P z = some (cd, mL, rt, mc, ms) → am_site Ts (t.nm z) (t.bz z) mL (t.rT z) (t.mi z).2.1 ∧ plainName (t.nm z).cls = true ∧ (t.nm z).cls = t.cn (t.oc z) ∧ am_rtOK rt (t.rT z)
      ∧ ((t.mi z).1 = 0 → Cond.instanceMethod (t.nm z) ∈ Ts ∧ Cond.selects (t.nm z).cls (t.nm z) (t.nm z) ∈ Ts ∧ ∃ T N, cl[(t.mi z).2.2]? = some ((t.nm z).cls, T, N))
      ∧ ((t.mi z).1 = 1 → Cond.static (t.nm z) ∈ Ts)
      ∧ ((t.mi z).1 = 2 → Cond.instanceMethod (t.nm z) ∈ Ts ∧ (t.nm z).name = "<init>" ∧ t.rT z = none)
      ∧ ∀ q ∈ cd, am_eD (t.bz z) q.1 q.2 = true ∧ am_eX t ft fin e3 e4 (oci (t.oc z)) (t.oc z) mL q.1 (Nat.beq (t.mi z).1 2) q.2 = true
end
section
section AM12
variable {p : Program} {l : Launch} {e : Env} {R : Room} {s : State} {m : MethodId} {args : Array Value} {below : List Frame} {meth : Method} {c : Code}
variable {D : va_G} {cl : List vw_C} {ft : Nat → List Nat} {cs : Nat → ClassId} {A : Nat → Prop} {C3 C4 : String} {nw : List (String × Nat × MethodName × String)} {Ts : List Cond} {d : Nat}
variable {ad0 : List Nat} {mL rt mc ms : Nat} {r : Int} {h' : am_h} {pc : Nat} {ls : am_l} {st : List am_v} {h : am_h} {cb sb : Nat}
variable {fin : Nat → Nat → Bool} {e3 e4 : Nat} {oci : Nat → Nat} {t : am_T}
theorem am_i32b_ok {v : Int} (h : am_i32b v = true) : am_i32 v := by
  unfold am_i32b at h; rw [Bool.and_eq_true, decide_eq_true_eq, decide_eq_true_eq] at h; exact h
theorem am_i64b_ok {v : Int} (h : am_i64b v = true) : am_i64 v := by
  unfold am_i64b at h; rw [Bool.and_eq_true, decide_eq_true_eq, decide_eq_true_eq] at h; exact h
theorem am_pOK_ok {x1 x3 x4 x5 : Nat} (h : am_pOK t x1 x3 x4 x5 = true) : ∃ cdz mLz, t.P x1 = some (cdz, mLz, x3, x4, x5) := by
  unfold am_pOK at h
  split at h
  · next cdz mLz a b c e =>
    rw [Bool.and_eq_true, Bool.and_eq_true] at h
    obtain ⟨⟨h1, h2⟩, h3⟩ := h
    rw [Nat.eq_of_beq_eq_true h1, Nat.eq_of_beq_eq_true h2, Nat.eq_of_beq_eq_true h3] at e
    exact ⟨_, _, e⟩
  · cases h
theorem am_call_some {cal : Nat → List am_v → am_h → Option (Int × am_h)} {z : Nat} {as : List am_v} {hh : am_h} {k : Int → am_h → Option (Int × am_h)} {y : Int × am_h} (q : (match cal z as hh with | some (r, h') => k r h' | none => none) = some y) : ∃ r1 h1, cal z as hh = some (r1, h1) ∧ k r1 h1 = some y := by
  cases e : cal z as hh with
  | none => rw [e] at q; cases q
  | some x => rw [e] at q; exact ⟨x.1, x.2, rfl, q⟩
set_option maxHeartbeats 8000000 in
theorem am_snd_step (TK : am_TOK Ts cl ft nw C3 C4 fin e3 e4 oci t) (z0 : Nat) {cd : List (Nat × am_e)} (hP : t.P z0 = some (cd, mL, rt, mc, ms)) (X : am_cx p R s m args meth c D cl cs A C3 C4 nw Ts (t.bz z0) mL (t.rT z0) (t.nm z0) d mc ms)
    {cal : Nat → List am_v → am_h → Option (Int × am_h)} {go : Nat → am_l → List am_v → am_h → Nat → Nat → Option (Int × am_h)}
    (IHg : ∀ pc ls st h cb sb, go pc ls st h cb sb = some (r, h') → am_G p l e R s m args below meth c D cl ft cs A ad0 mL rt mc ms r h' pc ls st h cb sb)
    (IHc : ∀ z as hh rr hh', cal z as hh = some (rr, hh') → ∀ cdz mLz rtz mcz msz, t.P z = some (cdz, mLz, rtz, mcz, msz) → am_Met l D cl ft cs A C3 C4 nw Ts (t.nm z) (t.bz z) mLz (t.rT z) d rtz mcz msz as hh rr hh')
    {E : am_e} (hm : (pc, E) ∈ cd) (hs : am_step none (fun r h => some (r, h)) go (fun z as h k => match cal z as h with | some (r, h') => k r h' | none => none) rt (some E) ls st h cb sb = some (r, h')) : am_G p l e R s m args below meth c D cl ft cs A ad0 mL rt mc ms r h' pc ls st h cb sb := by
  obtain ⟨tFL, tML, tNL, tCL, tAL, tKI, tKL, tOI, tAC, tNF, ⟨tA0, tA1, tA2⟩, tE3, tE4, tOC, hC, hG, tM⟩ := TK
  obtain ⟨hsite, hpl, hcn, hrt, hk0, hk1, hk2, hEs⟩ := tM z0 cd mL rt mc ms hP
  obtain ⟨eD, eX⟩ := hEs _ hm
  obtain ⟨ins, nx, v, x1, x2, x3, x4, x5, ts⟩ := E
  unfold am_eD at eD
  dsimp only at eD eX
  rw [Bool.and_eq_true, Bool.and_eq_true, decide_eq_true_eq] at eD
  obtain ⟨⟨hd0, hlt⟩, hsw⟩ := eD
  have hns : am_isSw ins = false → nx = pc + am_len ins ∧ decode (t.bz z0) pc = .ok (ins, am_len ins) := by
    intro q
    rw [q, Bool.false_or] at hsw
    have hn := Nat.eq_of_beq_eq_true hsw
    refine ⟨hn, ?_⟩
    rw [hn, Nat.add_sub_cancel_left] at hd0
    exact hd0
  cases ins
  case iload k =>
    obtain ⟨rfl, hd⟩ := hns rfl
    dsimp only [am_step] at hs
    dsimp only [am_eX] at eX
    have q := Nat.eq_of_beq_eq_true eX; subst q
    split at hs
    · next x e1 => exact am_t_iload X hd e1 (IHg _ _ _ _ _ _ hs)
    · cases hs
  case lload k =>
    obtain ⟨rfl, hd⟩ := hns rfl
    dsimp only [am_step] at hs
    dsimp only [am_eX] at eX
    have q := Nat.eq_of_beq_eq_true eX; subst q
    split at hs
    · next x e1 => exact am_t_lload X hd e1 (IHg _ _ _ _ _ _ hs)
    · cases hs
  case aload k =>
    obtain ⟨rfl, hd⟩ := hns rfl
    dsimp only [am_step] at hs
    dsimp only [am_eX] at eX
    have q := Nat.eq_of_beq_eq_true eX; subst q
    split at hs
    · next x e1 => exact am_t_aload X hd e1 (IHg _ _ _ _ _ _ hs)
    · cases hs
  case iload_n k =>
    obtain ⟨rfl, hd⟩ := hns rfl
    dsimp only [am_step] at hs
    dsimp only [am_eX] at eX
    have q := Nat.eq_of_beq_eq_true eX; subst q
    split at hs
    · next x e1 => exact am_t_iload_n X hd e1 (IHg _ _ _ _ _ _ hs)
    · cases hs
  case lload_n k =>
    obtain ⟨rfl, hd⟩ := hns rfl
    dsimp only [am_step] at hs
    dsimp only [am_eX] at eX
    have q := Nat.eq_of_beq_eq_true eX; subst q
    split at hs
    · next x e1 => exact am_t_lload_n X hd e1 (IHg _ _ _ _ _ _ hs)
    · cases hs
  case aload_n k =>
    obtain ⟨rfl, hd⟩ := hns rfl
    dsimp only [am_step] at hs
    dsimp only [am_eX] at eX
    have q := Nat.eq_of_beq_eq_true eX; subst q
    split at hs
    · next x e1 => exact am_t_aload_n X hd e1 (IHg _ _ _ _ _ _ hs)
    · cases hs
  case istore k =>
    obtain ⟨rfl, hd⟩ := hns rfl
    dsimp only [am_step] at hs
    dsimp only [am_eX] at eX
    rw [Bool.and_eq_true] at eX
    obtain ⟨eX, eL⟩ := eX
    have q := Nat.eq_of_beq_eq_true eX; subst q
    obtain ⟨a, s1, e9, hs9⟩ := am_i1_some hs; clear hs; subst e9; have hs := hs9; clear hs9
    exact am_t_istore X hd (Nat.le_of_ble_eq_true eL) (IHg _ _ _ _ _ _ hs)
  case istore_n k =>
    obtain ⟨rfl, hd⟩ := hns rfl
    dsimp only [am_step] at hs
    dsimp only [am_eX] at eX
    rw [Bool.and_eq_true] at eX
    obtain ⟨eX, eL⟩ := eX
    have q := Nat.eq_of_beq_eq_true eX; subst q
    obtain ⟨a, s1, e9, hs9⟩ := am_i1_some hs; clear hs; subst e9; have hs := hs9; clear hs9
    exact am_t_istore_n X hd (Nat.le_of_ble_eq_true eL) (IHg _ _ _ _ _ _ hs)
  case lstore k =>
    obtain ⟨rfl, hd⟩ := hns rfl
    dsimp only [am_step] at hs
    dsimp only [am_eX] at eX
    rw [Bool.and_eq_true] at eX
    obtain ⟨eX, eL⟩ := eX
    have q := Nat.eq_of_beq_eq_true eX; subst q
    obtain ⟨a, s1, e9, hs9⟩ := am_l1_some hs; clear hs; subst e9; have hs := hs9; clear hs9
    exact am_t_lstore X hd (Nat.le_of_ble_eq_true eL) (IHg _ _ _ _ _ _ hs)
  case lstore_n k =>
    obtain ⟨rfl, hd⟩ := hns rfl
    dsimp only [am_step] at hs
    dsimp only [am_eX] at eX
    rw [Bool.and_eq_true] at eX
    obtain ⟨eX, eL⟩ := eX
    have q := Nat.eq_of_beq_eq_true eX; subst q
    obtain ⟨a, s1, e9, hs9⟩ := am_l1_some hs; clear hs; subst e9; have hs := hs9; clear hs9
    exact am_t_lstore_n X hd (Nat.le_of_ble_eq_true eL) (IHg _ _ _ _ _ _ hs)
  case astore k =>
    obtain ⟨rfl, hd⟩ := hns rfl
    dsimp only [am_step] at hs
    dsimp only [am_eX] at eX
    rw [Bool.and_eq_true] at eX
    obtain ⟨eX, eL⟩ := eX
    have q := Nat.eq_of_beq_eq_true eX; subst q
    obtain ⟨a, s1, e9, hs9⟩ := am_r1_some hs; clear hs; subst e9; have hs := hs9; clear hs9
    cases a with
    | zero => cases hs
    | succ a => exact am_t_astore X hd (Nat.le_of_ble_eq_true eL) (IHg _ _ _ _ _ _ hs)
  case astore_n k =>
    obtain ⟨rfl, hd⟩ := hns rfl
    dsimp only [am_step] at hs
    dsimp only [am_eX] at eX
    rw [Bool.and_eq_true] at eX
    obtain ⟨eX, eL⟩ := eX
    have q := Nat.eq_of_beq_eq_true eX; subst q
    obtain ⟨a, s1, e9, hs9⟩ := am_r1_some hs; clear hs; subst e9; have hs := hs9; clear hs9
    cases a with
    | zero => cases hs
    | succ a => exact am_t_astore_n X hd (Nat.le_of_ble_eq_true eL) (IHg _ _ _ _ _ _ hs)
  case iinc k n =>
    obtain ⟨rfl, hd⟩ := hns rfl
    dsimp only [am_step] at hs
    dsimp only [am_eX] at eX
    rw [Bool.and_eq_true] at eX
    obtain ⟨eX, eL⟩ := eX
    have q := Nat.eq_of_beq_eq_true eX; subst q
    split at hs
    · next x e1 => exact am_t_iinc X hd (Nat.le_of_ble_eq_true eL) e1 (IHg _ _ _ _ _ _ hs)
    · cases hs
  case iconst n =>
    obtain ⟨rfl, hd⟩ := hns rfl
    dsimp only [am_step] at hs
    dsimp only [am_eX] at eX
    rw [Bool.and_eq_true, decide_eq_true_eq] at eX
    exact am_t_iconst X hd eX.1 (am_i32b_ok eX.2) (IHg _ _ _ _ _ _ hs)
  case bipush n =>
    obtain ⟨rfl, hd⟩ := hns rfl
    dsimp only [am_step] at hs
    dsimp only [am_eX] at eX
    rw [Bool.and_eq_true, decide_eq_true_eq] at eX
    exact am_t_bipush X hd eX.1 (am_i32b_ok eX.2) (IHg _ _ _ _ _ _ hs)
  case sipush n =>
    obtain ⟨rfl, hd⟩ := hns rfl
    dsimp only [am_step] at hs
    dsimp only [am_eX] at eX
    rw [Bool.and_eq_true, decide_eq_true_eq] at eX
    exact am_t_sipush X hd eX.1 (am_i32b_ok eX.2) (IHg _ _ _ _ _ _ hs)
  case lconst n =>
    obtain ⟨rfl, hd⟩ := hns rfl
    dsimp only [am_step] at hs
    dsimp only [am_eX] at eX
    rw [Bool.and_eq_true, decide_eq_true_eq] at eX
    exact am_t_lconst X hd eX.1 (am_i64b_ok eX.2) (IHg _ _ _ _ _ _ hs)
  case ldc k =>
    obtain ⟨rfl, hd⟩ := hns rfl
    dsimp only [am_step] at hs
    dsimp only [am_eX] at eX
    rw [Bool.and_eq_true, decide_eq_true_eq] at eX
    exact am_t_ldc X hd (by rw [hcn]; exact tKI _ _ _ eX.1) (am_i32b_ok eX.2) (IHg _ _ _ _ _ _ hs)
  case ldc_w k =>
    obtain ⟨rfl, hd⟩ := hns rfl
    dsimp only [am_step] at hs
    dsimp only [am_eX] at eX
    rw [Bool.and_eq_true, decide_eq_true_eq] at eX
    exact am_t_ldcw X hd (by rw [hcn]; exact tKI _ _ _ eX.1) (am_i32b_ok eX.2) (IHg _ _ _ _ _ _ hs)
  case ldc2_w k =>
    obtain ⟨rfl, hd⟩ := hns rfl
    dsimp only [am_step] at hs
    dsimp only [am_eX] at eX
    rw [Bool.and_eq_true, decide_eq_true_eq] at eX
    exact am_t_ldc2 X hd (by rw [hcn]; exact tKL _ _ _ eX.1) (am_i64b_ok eX.2) (IHg _ _ _ _ _ _ hs)
  case iadd =>
    obtain ⟨rfl, hd⟩ := hns rfl
    dsimp only [am_step] at hs
    obtain ⟨b, s1, e9, hs9⟩ := am_i1_some hs; clear hs; subst e9; have hs := hs9; clear hs9
    obtain ⟨a, s2, e9, hs9⟩ := am_i1_some hs; clear hs; subst e9; have hs := hs9; clear hs9
    exact am_t_iadd X hd (IHg _ _ _ _ _ _ hs)
  case isub =>
    obtain ⟨rfl, hd⟩ := hns rfl
    dsimp only [am_step] at hs
    obtain ⟨b, s1, e9, hs9⟩ := am_i1_some hs; clear hs; subst e9; have hs := hs9; clear hs9
    obtain ⟨a, s2, e9, hs9⟩ := am_i1_some hs; clear hs; subst e9; have hs := hs9; clear hs9
    exact am_t_isub X hd (IHg _ _ _ _ _ _ hs)
  case imul =>
    obtain ⟨rfl, hd⟩ := hns rfl
    dsimp only [am_step] at hs
    obtain ⟨b, s1, e9, hs9⟩ := am_i1_some hs; clear hs; subst e9; have hs := hs9; clear hs9
    obtain ⟨a, s2, e9, hs9⟩ := am_i1_some hs; clear hs; subst e9; have hs := hs9; clear hs9
    exact am_t_imul X hd (IHg _ _ _ _ _ _ hs)
  case iand =>
    obtain ⟨rfl, hd⟩ := hns rfl
    dsimp only [am_step] at hs
    obtain ⟨b, s1, e9, hs9⟩ := am_i1_some hs; clear hs; subst e9; have hs := hs9; clear hs9
    obtain ⟨a, s2, e9, hs9⟩ := am_i1_some hs; clear hs; subst e9; have hs := hs9; clear hs9
    exact am_t_iand X hd (IHg _ _ _ _ _ _ hs)
  case ior =>
    obtain ⟨rfl, hd⟩ := hns rfl
    dsimp only [am_step] at hs
    obtain ⟨b, s1, e9, hs9⟩ := am_i1_some hs; clear hs; subst e9; have hs := hs9; clear hs9
    obtain ⟨a, s2, e9, hs9⟩ := am_i1_some hs; clear hs; subst e9; have hs := hs9; clear hs9
    exact am_t_ior X hd (IHg _ _ _ _ _ _ hs)
  case ixor =>
    obtain ⟨rfl, hd⟩ := hns rfl
    dsimp only [am_step] at hs
    obtain ⟨b, s1, e9, hs9⟩ := am_i1_some hs; clear hs; subst e9; have hs := hs9; clear hs9
    obtain ⟨a, s2, e9, hs9⟩ := am_i1_some hs; clear hs; subst e9; have hs := hs9; clear hs9
    exact am_t_ixor X hd (IHg _ _ _ _ _ _ hs)
  case ishl =>
    obtain ⟨rfl, hd⟩ := hns rfl
    dsimp only [am_step] at hs
    obtain ⟨b, s1, e9, hs9⟩ := am_i1_some hs; clear hs; subst e9; have hs := hs9; clear hs9
    obtain ⟨a, s2, e9, hs9⟩ := am_i1_some hs; clear hs; subst e9; have hs := hs9; clear hs9
    exact am_t_ishl X hd (IHg _ _ _ _ _ _ hs)
  case ishr =>
    obtain ⟨rfl, hd⟩ := hns rfl
    dsimp only [am_step] at hs
    obtain ⟨b, s1, e9, hs9⟩ := am_i1_some hs; clear hs; subst e9; have hs := hs9; clear hs9
    obtain ⟨a, s2, e9, hs9⟩ := am_i1_some hs; clear hs; subst e9; have hs := hs9; clear hs9
    exact am_t_ishr X hd (IHg _ _ _ _ _ _ hs)
  case iushr =>
    obtain ⟨rfl, hd⟩ := hns rfl
    dsimp only [am_step] at hs
    obtain ⟨b, s1, e9, hs9⟩ := am_i1_some hs; clear hs; subst e9; have hs := hs9; clear hs9
    obtain ⟨a, s2, e9, hs9⟩ := am_i1_some hs; clear hs; subst e9; have hs := hs9; clear hs9
    exact am_t_iushr X hd (IHg _ _ _ _ _ _ hs)
  case idiv =>
    obtain ⟨rfl, hd⟩ := hns rfl
    dsimp only [am_step] at hs
    obtain ⟨b, s1, e9, hs9⟩ := am_i1_some hs; clear hs; subst e9; have hs := hs9; clear hs9
    obtain ⟨a, s2, e9, hs9⟩ := am_i1_some hs; clear hs; subst e9; have hs := hs9; clear hs9
    obtain ⟨hne, hs9⟩ := am_ifn_some hs; clear hs; have hs := hs9; clear hs9
    exact am_t_idiv X hd hne (IHg _ _ _ _ _ _ hs)
  case irem =>
    obtain ⟨rfl, hd⟩ := hns rfl
    dsimp only [am_step] at hs
    obtain ⟨b, s1, e9, hs9⟩ := am_i1_some hs; clear hs; subst e9; have hs := hs9; clear hs9
    obtain ⟨a, s2, e9, hs9⟩ := am_i1_some hs; clear hs; subst e9; have hs := hs9; clear hs9
    obtain ⟨hne, hs9⟩ := am_ifn_some hs; clear hs; have hs := hs9; clear hs9
    exact am_t_irem X hd hne (IHg _ _ _ _ _ _ hs)
  case ladd =>
    obtain ⟨rfl, hd⟩ := hns rfl
    dsimp only [am_step] at hs
    obtain ⟨b, s1, e9, hs9⟩ := am_l1_some hs; clear hs; subst e9; have hs := hs9; clear hs9
    obtain ⟨a, s2, e9, hs9⟩ := am_l1_some hs; clear hs; subst e9; have hs := hs9; clear hs9
    exact am_t_ladd X hd (IHg _ _ _ _ _ _ hs)
  case lsub =>
    obtain ⟨rfl, hd⟩ := hns rfl
    dsimp only [am_step] at hs
    obtain ⟨b, s1, e9, hs9⟩ := am_l1_some hs; clear hs; subst e9; have hs := hs9; clear hs9
    obtain ⟨a, s2, e9, hs9⟩ := am_l1_some hs; clear hs; subst e9; have hs := hs9; clear hs9
    exact am_t_lsub X hd (IHg _ _ _ _ _ _ hs)
  case lmul =>
    obtain ⟨rfl, hd⟩ := hns rfl
    dsimp only [am_step] at hs
    obtain ⟨b, s1, e9, hs9⟩ := am_l1_some hs; clear hs; subst e9; have hs := hs9; clear hs9
    obtain ⟨a, s2, e9, hs9⟩ := am_l1_some hs; clear hs; subst e9; have hs := hs9; clear hs9
    exact am_t_lmul X hd (IHg _ _ _ _ _ _ hs)
  case land =>
    obtain ⟨rfl, hd⟩ := hns rfl
    dsimp only [am_step] at hs
    obtain ⟨b, s1, e9, hs9⟩ := am_l1_some hs; clear hs; subst e9; have hs := hs9; clear hs9
    obtain ⟨a, s2, e9, hs9⟩ := am_l1_some hs; clear hs; subst e9; have hs := hs9; clear hs9
    exact am_t_land X hd (IHg _ _ _ _ _ _ hs)
  case lor =>
    obtain ⟨rfl, hd⟩ := hns rfl
    dsimp only [am_step] at hs
    obtain ⟨b, s1, e9, hs9⟩ := am_l1_some hs; clear hs; subst e9; have hs := hs9; clear hs9
    obtain ⟨a, s2, e9, hs9⟩ := am_l1_some hs; clear hs; subst e9; have hs := hs9; clear hs9
    exact am_t_lor X hd (IHg _ _ _ _ _ _ hs)
  case ldiv =>
    obtain ⟨rfl, hd⟩ := hns rfl
    dsimp only [am_step] at hs
    obtain ⟨b, s1, e9, hs9⟩ := am_l1_some hs; clear hs; subst e9; have hs := hs9; clear hs9
    obtain ⟨a, s2, e9, hs9⟩ := am_l1_some hs; clear hs; subst e9; have hs := hs9; clear hs9
    obtain ⟨hne, hs9⟩ := am_ifn_some hs; clear hs; have hs := hs9; clear hs9
    exact am_t_ldiv X hd hne (IHg _ _ _ _ _ _ hs)
  case lrem =>
    obtain ⟨rfl, hd⟩ := hns rfl
    dsimp only [am_step] at hs
    obtain ⟨b, s1, e9, hs9⟩ := am_l1_some hs; clear hs; subst e9; have hs := hs9; clear hs9
    obtain ⟨a, s2, e9, hs9⟩ := am_l1_some hs; clear hs; subst e9; have hs := hs9; clear hs9
    obtain ⟨hne, hs9⟩ := am_ifn_some hs; clear hs; have hs := hs9; clear hs9
    exact am_t_lrem X hd hne (IHg _ _ _ _ _ _ hs)
  case lshl =>
    obtain ⟨rfl, hd⟩ := hns rfl
    dsimp only [am_step] at hs
    obtain ⟨b, s1, e9, hs9⟩ := am_i1_some hs; clear hs; subst e9; have hs := hs9; clear hs9
    obtain ⟨a, s2, e9, hs9⟩ := am_l1_some hs; clear hs; subst e9; have hs := hs9; clear hs9
    exact am_t_lshl X hd (IHg _ _ _ _ _ _ hs)
  case lushr =>
    obtain ⟨rfl, hd⟩ := hns rfl
    dsimp only [am_step] at hs
    obtain ⟨b, s1, e9, hs9⟩ := am_i1_some hs; clear hs; subst e9; have hs := hs9; clear hs9
    obtain ⟨a, s2, e9, hs9⟩ := am_l1_some hs; clear hs; subst e9; have hs := hs9; clear hs9
    exact am_t_lushr X hd (IHg _ _ _ _ _ _ hs)
  case lcmp =>
    obtain ⟨rfl, hd⟩ := hns rfl
    dsimp only [am_step] at hs
    obtain ⟨b, s1, e9, hs9⟩ := am_l1_some hs; clear hs; subst e9; have hs := hs9; clear hs9
    obtain ⟨a, s2, e9, hs9⟩ := am_l1_some hs; clear hs; subst e9; have hs := hs9; clear hs9
    exact am_t_lcmp X hd (IHg _ _ _ _ _ _ hs)
  case i2l =>
    obtain ⟨rfl, hd⟩ := hns rfl
    dsimp only [am_step] at hs
    obtain ⟨a, s1, e9, hs9⟩ := am_i1_some hs; clear hs; subst e9; have hs := hs9; clear hs9
    exact am_t_i2l X hd (IHg _ _ _ _ _ _ hs)
  case l2i =>
    obtain ⟨rfl, hd⟩ := hns rfl
    dsimp only [am_step] at hs
    obtain ⟨a, s1, e9, hs9⟩ := am_l1_some hs; clear hs; subst e9; have hs := hs9; clear hs9
    exact am_t_l2i X hd (IHg _ _ _ _ _ _ hs)
  case i2b =>
    obtain ⟨rfl, hd⟩ := hns rfl
    dsimp only [am_step] at hs
    obtain ⟨a, s1, e9, hs9⟩ := am_i1_some hs; clear hs; subst e9; have hs := hs9; clear hs9
    exact am_t_i2b X hd (IHg _ _ _ _ _ _ hs)
  case dup =>
    obtain ⟨rfl, hd⟩ := hns rfl
    dsimp only [am_step] at hs
    split at hs
    · exact am_t_dup X rfl hd (IHg _ _ _ _ _ _ hs)
    · exact am_t_dup X rfl hd (IHg _ _ _ _ _ _ hs)
    · cases hs
  case dup2 =>
    obtain ⟨rfl, hd⟩ := hns rfl
    dsimp only [am_step] at hs
    split at hs
    · exact am_t_dup2 X rfl rfl hd (IHg _ _ _ _ _ _ hs)
    · cases hs
  case getfield k =>
    obtain ⟨rfl, hd⟩ := hns rfl
    dsimp only [am_step] at hs
    dsimp only [am_eX] at eX
    rw [Bool.and_eq_true, decide_eq_true_eq, decide_eq_true_eq] at eX
    obtain ⟨C, T, N, g1, g2, g3, g4⟩ := tFL _ _ _ _ eX.1
    obtain ⟨q, s1, e9, hs9⟩ := am_r1_some hs; clear hs; subst e9; have hs := hs9; clear hs9
    obtain ⟨j, e9, hj, hjk, hs9⟩ := am_ob_some hs; clear hs; subst e9; have hs := hs9; clear hs9
    have hs : go (pc + 3) ls (am_pv x3 (h.2 j (x2 : Int)) (h.1.2.2 j (x2 : Int)) :: s1) h cb sb = some (r, h') := by
      match x3, hs with
      | 0, hs => exact hs
      | 1, hs => exact hs
      | 2, hs => exact hs
      | _ + 3, hs => exact hs
    exact am_t_get X hC g1 (by rw [hcn]; exact g2) eX.2 hj hjk hd (IHg _ _ _ _ _ _ hs)
  case putfield k =>
    obtain ⟨rfl, hd⟩ := hns rfl
    dsimp only [am_step] at hs
    dsimp only [am_eX] at eX
    rw [Bool.and_eq_true, Bool.and_eq_true, decide_eq_true_eq, decide_eq_true_eq] at eX
    obtain ⟨⟨f1, f2⟩, f3⟩ := eX
    obtain ⟨C, T, N, g1, g2, g3, g4⟩ := tFL _ _ _ _ f1
    have g2' : Cond.fieldLink (t.nm z0).cls k (T x2).1 (T x2).2.1 (T x2).2.2.1 ∈ Ts := by rw [hcn]; exact g2
    have hfin : (T x2).2.2.2 = false ∨ ((T x2).2.2.2 = true ∧ (t.nm z0).name = "<init>" ∧ (T x2).1 = (t.nm z0).cls) := by
      rw [← g3]
      cases hf : fin x1 x2 with
      | false => exact Or.inl rfl
      | true =>
        rw [hf, Bool.not_true, Bool.false_or, Bool.and_eq_true] at f3
        obtain ⟨i1, i2⟩ := f3
        refine Or.inr ⟨rfl, (hk2 (Nat.eq_of_beq_eq_true i1)).2.1, ?_⟩
        rw [g4, hcn]
        exact tOC _ _ rfl C T N (by rw [← Nat.eq_of_beq_eq_true i2]; exact g1)
    match x3, f2, hs with
    | 0, f2, hs =>
      obtain ⟨a, s1, e9, hs9⟩ := am_i1_some hs; clear hs; subst e9; have hs := hs9; clear hs9
      obtain ⟨q, s2, e9, hs9⟩ := am_r1_some hs; clear hs; subst e9; have hs := hs9; clear hs9
      obtain ⟨j, e9, hj, hjk, hs9⟩ := am_ob_some hs; clear hs; subst e9; have hs := hs9; clear hs9
      rcases hfin with hf | ⟨hf, hi, ho⟩
      · exact am_t_putI X hC g1 g2' f2 hf hj hjk hd (IHg _ _ _ _ _ _ hs)
      · exact am_t_putIF X hC g1 g2' f2 hf hi ho hj hjk hd (IHg _ _ _ _ _ _ hs)
    | 1, f2, hs =>
      obtain ⟨a, s1, e9, hs9⟩ := am_l1_some hs; clear hs; subst e9; have hs := hs9; clear hs9
      obtain ⟨q, s2, e9, hs9⟩ := am_r1_some hs; clear hs; subst e9; have hs := hs9; clear hs9
      obtain ⟨j, e9, hj, hjk, hs9⟩ := am_ob_some hs; clear hs; subst e9; have hs := hs9; clear hs9
      rcases hfin with hf | ⟨hf, hi, ho⟩
      · exact am_t_putL X hC g1 g2' f2 hf hj hjk hd (IHg _ _ _ _ _ _ hs)
      · exact am_t_putLF X hC g1 g2' f2 hf hi ho hj hjk hd (IHg _ _ _ _ _ _ hs)
    | 2, f2, hs =>
      obtain ⟨a, s1, e9, hs9⟩ := am_r1_some hs; clear hs; subst e9; have hs := hs9; clear hs9
      obtain ⟨q, s2, e9, hs9⟩ := am_r1_some hs; clear hs; subst e9; have hs := hs9; clear hs9
      obtain ⟨j, e9, hj, hjk, hs9⟩ := am_ob_some hs; clear hs; subst e9; have hs := hs9; clear hs9
      obtain ⟨-, hs9⟩ := am_bif_some hs; clear hs; have hs := hs9; clear hs9
      rcases hfin with hf | ⟨hf, hi, ho⟩
      · exact am_t_putR X hC g1 g2' f2 hf hj hjk hd (IHg _ _ _ _ _ _ hs)
      · exact am_t_putRF X hC g1 g2' f2 hf hi ho hj hjk hd (IHg _ _ _ _ _ _ hs)
    | u + 3, f2, hs =>
      obtain ⟨a, s1, e9, hs9⟩ := am_i1_some hs; clear hs; subst e9; have hs := hs9; clear hs9
      obtain ⟨q, s2, e9, hs9⟩ := am_r1_some hs; clear hs; subst e9; have hs := hs9; clear hs9
      obtain ⟨j, e9, hj, hjk, hs9⟩ := am_ob_some hs; clear hs; subst e9; have hs := hs9; clear hs9
      obtain ⟨hz, hs9⟩ := am_if_some hs; clear hs; have hs := hs9; clear hs9
      have hu : u = 0 := by
        obtain ⟨-, ty0, -, -, -, htk⟩ := hC x1 C T N g1
        have q := htk x2 (u + 3) f2
        match u, q with
        | 0, _ => rfl
        | _ + 1, q => exact q.elim
      subst hu
      rcases hfin with hf | ⟨hf, hi, ho⟩
      · exact am_t_putZ X hC g1 g2' f2 hf hz hj hjk hd (IHg _ _ _ _ _ _ hs)
      · exact am_t_putZF X hC g1 g2' f2 hf hi ho hz hj hjk hd (IHg _ _ _ _ _ _ hs)
  case iaload =>
    obtain ⟨rfl, hd⟩ := hns rfl
    dsimp only [am_step] at hs
    obtain ⟨a, s1, e9, hs9⟩ := am_i1_some hs; clear hs; subst e9; have hs := hs9; clear hs9
    obtain ⟨q, s2, e9, hs9⟩ := am_r1_some hs; clear hs; subst e9; have hs := hs9; clear hs9
    obtain ⟨j, e9, hj, hjk, hs9⟩ := am_ob_some hs; clear hs; subst e9; have hs := hs9; clear hs9
    obtain ⟨hi, hs9⟩ := am_if_some hs; clear hs; have hs := hs9; clear hs9
    exact am_t_iaload X hj hjk hi.1 hi.2 hd (IHg _ _ _ _ _ _ hs)
  case laload =>
    obtain ⟨rfl, hd⟩ := hns rfl
    dsimp only [am_step] at hs
    obtain ⟨a, s1, e9, hs9⟩ := am_i1_some hs; clear hs; subst e9; have hs := hs9; clear hs9
    obtain ⟨q, s2, e9, hs9⟩ := am_r1_some hs; clear hs; subst e9; have hs := hs9; clear hs9
    obtain ⟨j, e9, hj, hjk, hs9⟩ := am_ob_some hs; clear hs; subst e9; have hs := hs9; clear hs9
    obtain ⟨hi, hs9⟩ := am_if_some hs; clear hs; have hs := hs9; clear hs9
    exact am_t_laload X hj hjk hi.1 hi.2 hd (IHg _ _ _ _ _ _ hs)
  case baload =>
    obtain ⟨rfl, hd⟩ := hns rfl
    dsimp only [am_step] at hs
    obtain ⟨a, s1, e9, hs9⟩ := am_i1_some hs; clear hs; subst e9; have hs := hs9; clear hs9
    obtain ⟨q, s2, e9, hs9⟩ := am_r1_some hs; clear hs; subst e9; have hs := hs9; clear hs9
    obtain ⟨j, e9, hj, hjk, hs9⟩ := am_ob_some hs; clear hs; subst e9; have hs := hs9; clear hs9
    obtain ⟨hi, hs9⟩ := am_if_some hs; clear hs; have hs := hs9; clear hs9
    exact am_t_baload X hj hjk hi.1 hi.2 hd (IHg _ _ _ _ _ _ hs)
  case aaload =>
    obtain ⟨rfl, hd⟩ := hns rfl
    dsimp only [am_step] at hs
    dsimp only [am_eX] at eX
    rw [Bool.or_eq_true] at eX
    obtain ⟨a, s1, e9, hs9⟩ := am_i1_some hs; clear hs; subst e9; have hs := hs9; clear hs9
    obtain ⟨q, s2, e9, hs9⟩ := am_r1_some hs; clear hs; subst e9; have hs := hs9; clear hs9
    obtain ⟨j, e9, hj, hjk, hs9⟩ := am_ob_some hs; clear hs; subst e9; have hs := hs9; clear hs9
    obtain ⟨hi, hs9⟩ := am_if_some hs; clear hs; have hs := hs9; clear hs9
    exact am_t_aaload X (eX.imp Nat.eq_of_beq_eq_true Nat.eq_of_beq_eq_true) hj hjk hi.1 hi.2 hd (IHg _ _ _ _ _ _ hs)
  case iastore =>
    obtain ⟨rfl, hd⟩ := hns rfl
    dsimp only [am_step] at hs
    obtain ⟨v0, s0, e9, hs9⟩ := am_i1_some hs; clear hs; subst e9; have hs := hs9; clear hs9
    obtain ⟨a, s1, e9, hs9⟩ := am_i1_some hs; clear hs; subst e9; have hs := hs9; clear hs9
    obtain ⟨q, s2, e9, hs9⟩ := am_r1_some hs; clear hs; subst e9; have hs := hs9; clear hs9
    obtain ⟨j, e9, hj, hjk, hs9⟩ := am_ob_some hs; clear hs; subst e9; have hs := hs9; clear hs9
    obtain ⟨hi, hs9⟩ := am_if_some hs; clear hs; have hs := hs9; clear hs9
    exact am_t_iastore X hj hjk hi.1 hi.2 hd (IHg _ _ _ _ _ _ hs)
  case lastore =>
    obtain ⟨rfl, hd⟩ := hns rfl
    dsimp only [am_step] at hs
    obtain ⟨v0, s0, e9, hs9⟩ := am_l1_some hs; clear hs; subst e9; have hs := hs9; clear hs9
    obtain ⟨a, s1, e9, hs9⟩ := am_i1_some hs; clear hs; subst e9; have hs := hs9; clear hs9
    obtain ⟨q, s2, e9, hs9⟩ := am_r1_some hs; clear hs; subst e9; have hs := hs9; clear hs9
    obtain ⟨j, e9, hj, hjk, hs9⟩ := am_ob_some hs; clear hs; subst e9; have hs := hs9; clear hs9
    obtain ⟨hi, hs9⟩ := am_if_some hs; clear hs; have hs := hs9; clear hs9
    exact am_t_lastore X hj hjk hi.1 hi.2 hd (IHg _ _ _ _ _ _ hs)
  case bastore =>
    obtain ⟨rfl, hd⟩ := hns rfl
    dsimp only [am_step] at hs
    obtain ⟨v0, s0, e9, hs9⟩ := am_i1_some hs; clear hs; subst e9; have hs := hs9; clear hs9
    obtain ⟨a, s1, e9, hs9⟩ := am_i1_some hs; clear hs; subst e9; have hs := hs9; clear hs9
    obtain ⟨q, s2, e9, hs9⟩ := am_r1_some hs; clear hs; subst e9; have hs := hs9; clear hs9
    obtain ⟨j, e9, hj, hjk, hs9⟩ := am_ob_some hs; clear hs; subst e9; have hs := hs9; clear hs9
    obtain ⟨hi, hs9⟩ := am_if_some hs; clear hs; have hs := hs9; clear hs9
    exact am_t_bastore X hj hjk hi.1 hi.2 hd (IHg _ _ _ _ _ _ hs)
  case aastore =>
    obtain ⟨rfl, hd⟩ := hns rfl
    dsimp only [am_step] at hs
    dsimp only [am_eX] at eX
    rw [Bool.or_eq_true, Bool.and_eq_true, Bool.and_eq_true] at eX
    obtain ⟨v0, s0, e9, hs9⟩ := am_r1_some hs; clear hs; subst e9; have hs := hs9; clear hs9
    obtain ⟨a, s1, e9, hs9⟩ := am_i1_some hs; clear hs; subst e9; have hs := hs9; clear hs9
    obtain ⟨q, s2, e9, hs9⟩ := am_r1_some hs; clear hs; subst e9; have hs := hs9; clear hs9
    obtain ⟨j, e9, hj, hjk, hs9⟩ := am_ob_some hs; clear hs; subst e9; have hs := hs9; clear hs9
    obtain ⟨j2, e9, hj2, hjk2, hs9⟩ := am_ob_some hs; clear hs; subst e9; have hs := hs9; clear hs9
    obtain ⟨hi, hs9⟩ := am_if_some hs; clear hs; have hs := hs9; clear hs9
    rcases eX with ⟨q1, q2⟩ | ⟨q1, q2⟩
    · obtain ⟨T, N, g1⟩ := tE3
      exact am_t_aastore X (ci := x2) (r2 := (C3, T, N)) (by rw [Nat.eq_of_beq_eq_true q2]; exact g1) (Or.inl ⟨Nat.eq_of_beq_eq_true q1, rfl⟩) hj hjk hj2 hjk2 hi.1 hi.2 hd (IHg _ _ _ _ _ _ hs)
    · obtain ⟨T, N, g1⟩ := tE4
      exact am_t_aastore X (ci := x2) (r2 := (C4, T, N)) (by rw [Nat.eq_of_beq_eq_true q2]; exact g1) (Or.inr ⟨Nat.eq_of_beq_eq_true q1, rfl⟩) hj hjk hj2 hjk2 hi.1 hi.2 hd (IHg _ _ _ _ _ _ hs)
  case arraylength =>
    obtain ⟨rfl, hd⟩ := hns rfl
    dsimp only [am_step] at hs
    obtain ⟨q, s2, e9, hs9⟩ := am_r1_some hs; clear hs; subst e9; have hs := hs9; clear hs9
    obtain ⟨j, e9, hj, hjk, hs9⟩ := am_ob_some hs; clear hs; subst e9; have hs := hs9; clear hs9
    obtain ⟨hi, hs9⟩ := am_bif_some hs; clear hs; have hs := hs9; clear hs9
    rw [Bool.and_eq_true] at hi
    exact am_t_alen X (Nat.le_of_ble_eq_true hi.1) hj hjk (Nat.le_of_ble_eq_true hi.2) hd (IHg _ _ _ _ _ _ hs)
  case goto f =>
    obtain ⟨rfl, hd⟩ := hns rfl
    dsimp only [am_step] at hs
    dsimp only [am_eX] at eX
    exact am_t_goto X hd (of_decide_eq_true eX) (IHg _ _ _ _ _ _ hs)
  case ifCond cnd f =>
    obtain ⟨rfl, hd⟩ := hns rfl
    dsimp only [am_step] at hs
    dsimp only [am_eX] at eX
    have ht := of_decide_eq_true eX
    obtain ⟨a, s1, e9, hs9⟩ := am_i1_some hs; clear hs; subst e9; have hs := hs9; clear hs9
    cases cnd with
    | eq =>
      dsimp only [am_br] at hs
      exact am_t_if_eq X hd ht (fun z => IHg _ _ _ _ _ _ (by rw [if_pos z] at hs; exact hs)) (fun z => IHg _ _ _ _ _ _ (by rw [if_neg z] at hs; exact hs))
    | ne =>
      dsimp only [am_br] at hs
      exact am_t_if_ne X hd ht (fun z => IHg _ _ _ _ _ _ (by rw [if_neg z] at hs; exact hs)) (fun z => IHg _ _ _ _ _ _ (by rw [if_pos z] at hs; exact hs))
    | lt =>
      dsimp only [am_br] at hs
      exact am_t_if_lt X hd ht (fun z => IHg _ _ _ _ _ _ (by rw [if_pos z] at hs; exact hs)) (fun z => IHg _ _ _ _ _ _ (by rw [if_neg z] at hs; exact hs))
    | ge =>
      dsimp only [am_br] at hs
      exact am_t_if_ge X hd ht (fun z => IHg _ _ _ _ _ _ (by rw [if_neg z] at hs; exact hs)) (fun z => IHg _ _ _ _ _ _ (by rw [if_pos z] at hs; exact hs))
    | gt =>
      dsimp only [am_br] at hs
      exact am_t_if_gt X hd ht (fun z => IHg _ _ _ _ _ _ (by rw [if_pos z] at hs; exact hs)) (fun z => IHg _ _ _ _ _ _ (by rw [if_neg z] at hs; exact hs))
    | le =>
      dsimp only [am_br] at hs
      exact am_t_if_le X hd ht (fun z => IHg _ _ _ _ _ _ (by rw [if_neg z] at hs; exact hs)) (fun z => IHg _ _ _ _ _ _ (by rw [if_pos z] at hs; exact hs))
  case if_icmp cnd f =>
    obtain ⟨rfl, hd⟩ := hns rfl
    dsimp only [am_step] at hs
    dsimp only [am_eX] at eX
    have ht := of_decide_eq_true eX
    obtain ⟨b, s1, e9, hs9⟩ := am_i1_some hs; clear hs; subst e9; have hs := hs9; clear hs9
    obtain ⟨a, s2, e9, hs9⟩ := am_i1_some hs; clear hs; subst e9; have hs := hs9; clear hs9
    cases cnd with
    | eq =>
      dsimp only [am_br] at hs
      exact am_t_icmp_eq X hd ht (fun z => IHg _ _ _ _ _ _ (by rw [if_pos z] at hs; exact hs)) (fun z => IHg _ _ _ _ _ _ (by rw [if_neg z] at hs; exact hs))
    | ne =>
      dsimp only [am_br] at hs
      exact am_t_icmp_ne X hd ht (fun z => IHg _ _ _ _ _ _ (by rw [if_neg z] at hs; exact hs)) (fun z => IHg _ _ _ _ _ _ (by rw [if_pos z] at hs; exact hs))
    | lt =>
      dsimp only [am_br] at hs
      exact am_t_icmp_lt X hd ht (fun z => IHg _ _ _ _ _ _ (by rw [if_pos z] at hs; exact hs)) (fun z => IHg _ _ _ _ _ _ (by rw [if_neg z] at hs; exact hs))
    | ge =>
      dsimp only [am_br] at hs
      exact am_t_icmp_ge X hd ht (fun z => IHg _ _ _ _ _ _ (by rw [if_neg z] at hs; exact hs)) (fun z => IHg _ _ _ _ _ _ (by rw [if_pos z] at hs; exact hs))
    | gt =>
      dsimp only [am_br] at hs
      exact am_t_icmp_gt X hd ht (fun z => IHg _ _ _ _ _ _ (by rw [if_pos z] at hs; exact hs)) (fun z => IHg _ _ _ _ _ _ (by rw [if_neg z] at hs; exact hs))
    | le =>
      dsimp only [am_br] at hs
      exact am_t_icmp_le X hd ht (fun z => IHg _ _ _ _ _ _ (by rw [if_neg z] at hs; exact hs)) (fun z => IHg _ _ _ _ _ _ (by rw [if_pos z] at hs; exact hs))
  case tableswitch df lo hi offs =>
    dsimp only [am_step] at hs
    dsimp only [am_eX] at eX
    rw [Bool.and_eq_true, Bool.and_eq_true, decide_eq_true_eq, decide_eq_true_eq] at eX
    obtain ⟨⟨q1, q2⟩, q3⟩ := eX
    obtain ⟨a, s1, e9, hs9⟩ := am_i1_some hs; clear hs; subst e9; have hs := hs9; clear hs9
    rw [am_sw_to] at hs
    exact am_t_tsw X hd0 (am_tsb_ok _ _ _ q1) q2 q3 (IHg _ _ _ _ _ _ hs)
  case lookupswitch df ps =>
    dsimp only [am_step] at hs
    dsimp only [am_eX] at eX
    rw [Bool.and_eq_true, Bool.and_eq_true, decide_eq_true_eq] at eX
    obtain ⟨⟨q1, q2⟩, q3⟩ := eX
    obtain ⟨a, s1, e9, hs9⟩ := am_i1_some hs; clear hs; subst e9; have hs := hs9; clear hs9
    rw [am_sw_to] at hs
    exact am_t_lsw X hd0 (am_lsb_ok _ _ q1) q2 q3 (IHg _ _ _ _ _ _ hs)
  case ireturn =>
    obtain ⟨rfl, hd⟩ := hns rfl
    dsimp only [am_step] at hs
    split at hs
    · obtain ⟨a, s1, e9, hs9⟩ := am_i1_some hs; clear hs; subst e9; have hs := hs9; clear hs9
      obtain ⟨he, hs9⟩ := am_bif_some hs; clear hs; have hs := hs9; clear hs9
      have hemp := List.isEmpty_iff.mp he; subst hemp
      cases hs
      exact am_t_ireturn X hrt hd
    · obtain ⟨a, s1, e9, hs9⟩ := am_i1_some hs; clear hs; subst e9; have hs := hs9; clear hs9
      obtain ⟨he, hs9⟩ := am_bif_some hs; clear hs; have hs := hs9; clear hs9
      obtain ⟨hz, hs9⟩ := am_if_some hs; clear hs; have hs := hs9; clear hs9
      have hemp := List.isEmpty_iff.mp he; subst hemp
      cases hs
      exact am_t_zreturn X hrt hz hd
    · cases hs
  case lreturn =>
    obtain ⟨rfl, hd⟩ := hns rfl
    dsimp only [am_step] at hs
    split at hs
    · obtain ⟨a, s1, e9, hs9⟩ := am_l1_some hs; clear hs; subst e9; have hs := hs9; clear hs9
      obtain ⟨he, hs9⟩ := am_bif_some hs; clear hs; have hs := hs9; clear hs9
      have hemp := List.isEmpty_iff.mp he; subst hemp
      cases hs
      exact am_t_lreturn X hrt hd
    · cases hs
  case areturn =>
    obtain ⟨rfl, hd⟩ := hns rfl
    dsimp only [am_step] at hs
    split at hs
    · obtain ⟨a, s1, e9, hs9⟩ := am_r1_some hs; clear hs; subst e9; have hs := hs9; clear hs9
      obtain ⟨he, hs9⟩ := am_bif_some hs; clear hs; have hs := hs9; clear hs9
      have hemp := List.isEmpty_iff.mp he; subst hemp
      obtain ⟨C, hrt⟩ := hrt
      cases a with
      | zero => cases hs
      | succ k =>
        cases hs
        exact am_t_areturn X hrt hd
    · cases hs
  case return_ =>
    obtain ⟨rfl, hd⟩ := hns rfl
    dsimp only [am_step] at hs
    split at hs
    · obtain ⟨he, hs9⟩ := am_bif_some hs; clear hs; have hs := hs9; clear hs9
      have hemp := List.isEmpty_iff.mp he; subst hemp
      cases hs
      exact am_t_return X hrt hd
    · cases hs
  case new k =>
    obtain ⟨rfl, hd⟩ := hns rfl
    dsimp only [am_step] at hs
    dsimp only [am_eX] at eX
    rw [Bool.and_eq_true, decide_eq_true_eq] at eX
    obtain ⟨C, T, N, g1, g2, g3, g4⟩ := tCL _ _ _ eX.1
    obtain ⟨hi, hs9⟩ := am_bif_some hs; clear hs; have hs := hs9; clear hs9
    rw [Bool.and_eq_true] at hi
    have hN : x2 = N := (Nat.eq_of_beq_eq_true eX.2).trans (by obtain ⟨-, ty0, -, -, hln, -⟩ := hC x1 C T N g1; exact hln)
    subst hN
    exact am_t_new X hC g1 (by rw [hcn]; exact g2) g3 g4 (Nat.le_of_ble_eq_true hi.1) (Nat.le_of_ble_eq_true hi.2) hd (IHg _ _ _ _ _ _ hs)
  case newarray at0 =>
    obtain ⟨rfl, hd⟩ := hns rfl
    dsimp only [am_step] at hs
    dsimp only [am_eX] at eX
    rw [Bool.or_eq_true, Bool.or_eq_true, Bool.and_eq_true, Bool.and_eq_true, Bool.and_eq_true, decide_eq_true_eq, decide_eq_true_eq, decide_eq_true_eq] at eX
    obtain ⟨n, s1, e9, hs9⟩ := am_i1_some hs; clear hs; subst e9; have hs := hs9; clear hs9
    obtain ⟨hi, hs9⟩ := am_if_some hs; clear hs; have hs := hs9; clear hs9
    obtain ⟨hj, hs9⟩ := am_bif_some hs; clear hs; have hs := hs9; clear hs9
    rw [Bool.and_eq_true] at hj
    have hk : (x1 = 0 ∧ at0 = .int) ∨ (x1 = 1 ∧ at0 = .long) ∨ (x1 = 2 ∧ at0 = .byte) := by
      rcases eX with (q | q) | q
      · exact Or.inl ⟨Nat.eq_of_beq_eq_true q.1, q.2⟩
      · exact Or.inr (Or.inl ⟨Nat.eq_of_beq_eq_true q.1, q.2⟩)
      · exact Or.inr (Or.inr ⟨Nat.eq_of_beq_eq_true q.1, q.2⟩)
    exact am_t_newarr X hk (by rcases hk with ⟨-, rfl⟩ | ⟨-, rfl⟩ | ⟨-, rfl⟩ <;> assumption) hi.1 hi.2 (Nat.le_of_ble_eq_true hj.1) (Nat.le_of_ble_eq_true hj.2) hd (IHg _ _ _ _ _ _ hs)
  case anewarray k =>
    obtain ⟨rfl, hd⟩ := hns rfl
    dsimp only [am_step] at hs
    dsimp only [am_eX] at eX
    have eX := of_decide_eq_true eX
    obtain ⟨n, s1, e9, hs9⟩ := am_i1_some hs; clear hs; subst e9; have hs := hs9; clear hs9
    obtain ⟨hi, hs9⟩ := am_if_some hs; clear hs; have hs := hs9; clear hs9
    obtain ⟨hj, hs9⟩ := am_bif_some hs; clear hs; have hs := hs9; clear hs9
    rw [Bool.and_eq_true] at hj
    rcases tAL _ _ _ eX with ⟨q1, q2⟩ | ⟨q1, q2⟩
    · exact am_t_anew X (C := C3) (Or.inl ⟨q1, rfl⟩) (by rw [hcn]; exact q2) hi.1 hi.2 (Nat.le_of_ble_eq_true hj.1) (Nat.le_of_ble_eq_true hj.2) hd (IHg _ _ _ _ _ _ hs)
    · exact am_t_anew X (C := C4) (Or.inr ⟨q1, rfl⟩) (by rw [hcn]; exact q2) hi.1 hi.2 (Nat.le_of_ble_eq_true hj.1) (Nat.le_of_ble_eq_true hj.2) hd (IHg _ _ _ _ _ _ hs)
  case invokevirtual k =>
    obtain ⟨rfl, hd⟩ := hns rfl
    dsimp only [am_step] at hs
    dsimp only [am_eX] at eX
    simp only [Bool.and_eq_true] at eX
    obtain ⟨⟨⟨⟨q1, q2⟩, q3⟩, q4⟩, q5⟩ := eX
    obtain ⟨cdz, mLz, hz⟩ := am_pOK_ok q2
    obtain ⟨z1, -, -, -, z5, -, -, -⟩ := tM _ _ _ _ _ _ hz
    obtain ⟨z5, z6, T, N, z7⟩ := z5 (Nat.eq_of_beq_eq_true q3)
    have e4 := Nat.eq_of_beq_eq_true q4
    subst e4
    split at hs
    · next as s1 hsp =>
      obtain ⟨hi, hs9⟩ := am_bif_some hs; clear hs; have hs := hs9; clear hs9
      simp only [Bool.and_eq_true] at hi
      obtain ⟨⟨⟨hi1, hi2⟩, hi3⟩, hi4⟩ := hi
      obtain ⟨r1, h1, hcal, hs9⟩ := am_call_some hs; clear hs; have hs := hs9; clear hs9
      rw [Nat.eq_of_beq_eq_true q5] at hi1
      exact am_t_callV X hG z7 z1 (by rw [hcn]; exact tML _ _ _ (of_decide_eq_true q1)) z5 z6 hsp hi1 (Nat.le_of_ble_eq_true hi2) (Nat.le_of_ble_eq_true hi3) (Nat.le_of_ble_eq_true hi4) (IHc _ _ _ _ _ hcal _ _ _ _ _ hz) hd (IHg _ _ _ _ _ _ hs)
    · cases hs
  case invokestatic k =>
    obtain ⟨rfl, hd⟩ := hns rfl
    dsimp only [am_step] at hs
    dsimp only [am_eX] at eX
    split at hs
    · have eX := of_decide_eq_true eX
      obtain ⟨w1, w2, w3, w4⟩ := tAC _ _ eX
      obtain ⟨n, s1, e9, hs9⟩ := am_i1_some hs; clear hs; subst e9; have hs := hs9; clear hs9
      obtain ⟨dp, s2, e9, hs9⟩ := am_i1_some hs; clear hs; subst e9; have hs := hs9; clear hs9
      obtain ⟨dd, s3, e9, hs9⟩ := am_r1_some hs; clear hs; subst e9; have hs := hs9; clear hs9
      obtain ⟨sp, s4, e9, hs9⟩ := am_i1_some hs; clear hs; subst e9; have hs := hs9; clear hs9
      obtain ⟨aa, s5, e9, hs9⟩ := am_r1_some hs; clear hs; subst e9; have hs := hs9; clear hs9
      obtain ⟨kd, e9, hj, hjk, hs9⟩ := am_ob_some hs; clear hs; subst e9; have hs := hs9; clear hs9
      obtain ⟨ka, e9, hj2, hjk2, hs9⟩ := am_ob_some hs; clear hs; subst e9; have hs := hs9; clear hs9
      obtain ⟨hi, hs9⟩ := am_bif_some hs; clear hs; have hs := hs9; clear hs9
      obtain ⟨⟨b1, b2, b3, b4, b5⟩, hs9⟩ := am_if_some hs; clear hs; have hs := hs9; clear hs9
      exact am_t_copy X (by rw [hcn]; exact w1) w2 w3 w4 hj2 hj hjk2 hjk b1 b2 b3 b4 b5 (Nat.le_of_ble_eq_true hi) tNF hd (IHg _ _ _ _ _ _ hs)
    · next hv =>
      split at eX
      · next e => exact absurd rfl hv
      simp only [Bool.and_eq_true] at eX
      obtain ⟨⟨⟨q1, q2⟩, q3⟩, q4⟩ := eX
      obtain ⟨cdz, mLz, hz⟩ := am_pOK_ok q2
      obtain ⟨z1, -, -, -, -, z6, -, -⟩ := tM _ _ _ _ _ _ hz
      have z6 := z6 (Nat.eq_of_beq_eq_true q3)
      have e4 := Nat.eq_of_beq_eq_true q4
      subst e4
      split at hs
      · next as s1 hsp =>
        obtain ⟨hi, hs9⟩ := am_bif_some hs; clear hs; have hs := hs9; clear hs9
        simp only [Bool.and_eq_true] at hi
        obtain ⟨⟨hi2, hi3⟩, hi4⟩ := hi
        obtain ⟨r1, h1, hcal, hs9⟩ := am_call_some hs; clear hs; have hs := hs9; clear hs9
        exact am_t_callS X hG z1 (by rw [hcn]; exact tML _ _ _ (of_decide_eq_true q1)) z6 hsp (Nat.le_of_ble_eq_true hi2) (Nat.le_of_ble_eq_true hi3) (Nat.le_of_ble_eq_true hi4) (IHc _ _ _ _ _ hcal _ _ _ _ _ hz) hd (IHg _ _ _ _ _ _ hs)
      · cases hs
  case invokespecial k =>
    obtain ⟨rfl, hd⟩ := hns rfl
    dsimp only [am_step] at hs
    dsimp only [am_eX] at eX
    split at hs
    · have eX := of_decide_eq_true eX
      obtain ⟨w1, w2, w3⟩ := tOI _ _ eX
      obtain ⟨q, s1, e9, hs9⟩ := am_r1_some hs; clear hs; subst e9; have hs := hs9; clear hs9
      obtain ⟨hi, hs9⟩ := am_bif_some hs; clear hs; have hs := hs9; clear hs9
      rw [Bool.and_eq_true] at hi
      obtain ⟨j, rfl⟩ : ∃ j, q = j + 1 := ⟨q - 1, by have := Nat.le_of_ble_eq_true hi.2; omega⟩
      exact am_t_objInit X (by rw [hcn]; exact w1) w2 w3 (Nat.le_of_ble_eq_true hi.1) hd (IHg _ _ _ _ _ _ hs)
    · next hv =>
      split at eX
      · next e => exact absurd rfl hv
      simp only [Bool.and_eq_true] at eX
      obtain ⟨⟨⟨⟨q1, q2⟩, q3⟩, q4⟩, q5⟩ := eX
      obtain ⟨cdz, mLz, hz⟩ := am_pOK_ok q2
      obtain ⟨z1, -, -, -, -, -, z7, -⟩ := tM _ _ _ _ _ _ hz
      obtain ⟨z5, z6, z8⟩ := z7 (Nat.eq_of_beq_eq_true q3)
      have e4 := Nat.eq_of_beq_eq_true q4
      subst e4
      split at hs
      · next as s1 hsp =>
        obtain ⟨hi, hs9⟩ := am_bif_some hs; clear hs; have hs := hs9; clear hs9
        simp only [Bool.and_eq_true] at hi
        obtain ⟨⟨⟨hi1, hi2⟩, hi3⟩, hi4⟩ := hi
        obtain ⟨r1, h1, hcal, hs9⟩ := am_call_some hs; clear hs; have hs := hs9; clear hs9
        have hMz := IHc _ _ _ _ _ hcal _ _ _ _ _ hz
        rw [z8] at z1 hMz
        have h5 := Nat.le_of_ble_eq_true q5
        rw [show v.toNat + 2 = (v.toNat - 3) + 5 by omega] at hi1
        rw [Bool.or_eq_true, decide_eq_true_eq, decide_eq_true_eq] at q1
        rcases q1 with q1 | q1
        · exact am_t_callI X hG (host := "") z1 z6 (Or.inl (by rw [hcn]; exact tML _ _ _ q1)) z5 hsp hi1 (Nat.le_of_ble_eq_true hi2) (Nat.le_of_ble_eq_true hi3) (Nat.le_of_ble_eq_true hi4) hMz hd (IHg _ _ _ _ _ _ hs)
        · obtain ⟨host, hh⟩ := tNL _ _ _ q1
          exact am_t_callI X hG (host := host) z1 z6 (Or.inr (by rw [hcn]; exact hh)) z5 hsp hi1 (Nat.le_of_ble_eq_true hi2) (Nat.le_of_ble_eq_true hi3) (Nat.le_of_ble_eq_true hi4) hMz hd (IHg _ _ _ _ _ _ hs)
      · cases hs
  all_goals (dsimp only [am_step] at hs; cases hs)
end AM12
end
section
/-! whatever the small machine answers, the machine does -/
theorem am_at_mem : ∀ (cd : List (Nat × am_e)) (pc : Nat) (E : am_e), am_at cd pc = some E → (pc, E) ∈ cd
  | [], _, _, h => by simp [am_at] at h
  | (q, e) :: l, pc, E, h => by
    unfold am_at at h
    cases b : Nat.beq q pc with
    | true =>
      rw [b] at h
      have e1 := Nat.eq_of_beq_eq_true b
      subst e1
      have h : some e = some E := h
      cases h
      exact List.mem_cons_self
    | false =>
      rw [b] at h
      exact List.mem_cons_of_mem _ (am_at_mem l pc E h)
theorem am_wds_sz : ∀ (as : List am_v), am_wds as = am_sz as
  | [] => rfl
  | v :: l => by
    have := am_wds_sz l
    unfold am_wds at this ⊢
    simp only [List.map_cons, List.sum_cons, am_sz, this]
theorem am_snd {D : va_G} {cl : List vw_C} {ft : Nat → List Nat} {cs : Nat → ClassId} {A : Nat → Prop} {C3 C4 : String} {nw : List (String × Nat × MethodName × String)} {Ts : List Cond} {fin : Nat → Nat → Bool} {e3 e4 : Nat} {oci : Nat → Nat} {t : am_T} (l : Launch) (TK : am_TOK Ts cl ft nw C3 C4 fin e3 e4 oci t) :
    ∀ (d F z : Nat) (as : List am_v) (h : am_h) (r : Int) (h' : am_h), am_call t.P d F z as h = some (r, h') → ∀ cdz mLz rtz mcz msz, t.P z = some (cdz, mLz, rtz, mcz, msz) → am_Met l D cl ft cs A C3 C4 nw Ts (t.nm z) (t.bz z) mLz (t.rT z) d rtz mcz msz as h r h' := by
  intro d
  induction d with
  | zero => intro F z as h r h' hc; cases hc
  | succ d ih =>
    intro F z as h r h' hc cdz mLz rtz mcz msz hz ad0 hO
    unfold am_call at hc
    rw [hz] at hc
    dsimp only at hc
    obtain ⟨hw, hc⟩ := am_bif_some hc
    have hw := Nat.le_of_ble_eq_true hw
    rw [am_wds_sz] at hw
    obtain ⟨hsite, hpl, hcn, hrt, hk0, hk1, hk2, hEs⟩ := TK.2.2.2.2.2.2.2.2.2.2.2.2.2.2.2.2 z cdz mLz rtz mcz msz hz
    refine Met.ofW (cc := t.bz z) (maxL := mLz) (ret := t.rT z) hpl rfl ?_
    intro p e s m args below meth c s₁ B hml hv
    obtain ⟨rfl, hRP, hK, hA⟩ := hv
    have hts := atoms_spec (ws := .code (t.nm z) (t.bz z) mLz (t.rT z) :: Ts) B.pre
    have X : am_cx p (headSpec (.code (t.nm z) (t.bz z) mLz (t.rT z) :: Ts) (am_rm (d + 1) mcz msz)).room s m (as.map (am_cv ad0)).toArray meth c D cl cs A C3 C4 nw Ts (t.bz z) mLz (t.rT z) (t.nm z) d mcz msz :=
      ⟨B.exec, B.bytes, hml, B.returns, fun w hw => hts w (List.mem_cons_of_mem _ hw), findClass_of_methodNamed B.named, B.notSynchronized, (name_of_methodNamed B.named B.method).1, hK, hA, rfl, rfl, rfl, rfl⟩
    have main : ∀ (n pc : Nat) (ls : am_l) (st : List am_v) (h : am_h) (cb sb : Nat), am_ex (am_call t.P d F) cdz rtz n pc ls st h cb sb = some (r, h') → am_G p l e (headSpec (.code (t.nm z) (t.bz z) mLz (t.rT z) :: Ts) (am_rm (d + 1) mcz msz)).room s m (as.map (am_cv ad0)).toArray below meth c D cl ft cs A ad0 mLz rtz mcz msz r h' pc ls st h cb sb := by
      intro n
      induction n with
      | zero => intro pc ls st h cb sb q; cases q
      | succ n ihn =>
        intro pc ls st h cb sb q
        cases ha : am_at cdz pc with
        | none =>
          have q : am_step none (fun r h => some (r, h)) (am_ex (am_call t.P d F) cdz rtz n) (fun z as h k => match am_call t.P d F z as h with | some (r, h') => k r h' | none => none) rtz (am_at cdz pc) ls st h cb sb = some (r, h') := q
          rw [ha] at q
          cases q
        | some E =>
          have q : am_step none (fun r h => some (r, h)) (am_ex (am_call t.P d F) cdz rtz n) (fun z as h k => match am_call t.P d F z as h with | some (r, h') => k r h' | none => none) rtz (am_at cdz pc) ls st h cb sb = some (r, h') := q
          rw [ha] at q
          exact am_snd_step TK z hz X ihn (fun z as hh rr hh' hcal cdz mLz rtz mcz msz hPz => ih F z as hh rr hh' hcal cdz mLz rtz mcz msz hPz) (am_at_mem cdz pc E ha) q
    have k0 := main F 0 (am_loc as mLz) [] h mcz msz hc [] s.heap [] _ 0 0 (by rw [List.append_nil]; exact hRP) va_S.rf (by rw [List.append_nil]; exact am_LR.entry hw hO) (fun v hv => by cases hv) (by omega) (by omega)
    rw [lg_entry_eq]
    exact k0
end
