/-! the checks of an entry -/
def am_len : Instr → Nat
  | .iload _ | .lload _ | .aload _ | .istore _ | .lstore _ | .astore _ | .bipush _ | .ldc _ | .newarray _ => 2
  | .iinc _ _ | .sipush _ | .ldc_w _ | .ldc2_w _ | .getfield _ | .putfield _ | .goto _ | .ifCond _ _ | .if_icmp _ _ | .new _ | .anewarray _ | .invokevirtual _ | .invokespecial _ | .invokestatic _ => 3
  | _ => 1
/-- the tables of a program: code, names, bytes, answers; kind, parameters, class of a method; links by class -/
abbrev am_T : Type := (Nat → Option am_m) × (Nat → MethodName) × (Nat → ByteArray) × (Nat → Option FieldType) × (Nat → Nat × Nat × Nat) × (Nat → String) × (Nat → Nat)
  × (Nat → List (Nat × Nat × Nat)) × (Nat → List (Nat × Nat)) × (Nat → List (Nat × Nat)) × (Nat → List (Nat × Nat)) × (Nat → List (Nat × Int)) × (Nat → List (Nat × Int)) × (Nat → List Nat) × (Nat → List Nat) × (Nat → List (Nat × Nat)) × (Nat → List (Nat × Nat))
def am_T.P (t : am_T) := t.1
def am_T.nm (t : am_T) := t.2.1
def am_T.bz (t : am_T) := t.2.2.1
def am_T.rT (t : am_T) := t.2.2.2.1
def am_T.mi (t : am_T) := t.2.2.2.2.1
def am_T.cn (t : am_T) := t.2.2.2.2.2.1
def am_T.oc (t : am_T) := t.2.2.2.2.2.2.1
/-- fields: index, class, field -/
def am_T.FL (t : am_T) := t.2.2.2.2.2.2.2.1
/-- methods: index, method -/
def am_T.ML (t : am_T) := t.2.2.2.2.2.2.2.2.1
/-- classes for new -/
def am_T.CL (t : am_T) := t.2.2.2.2.2.2.2.2.2.1
/-- classes for anewarray: index, kind -/
def am_T.AL (t : am_T) := t.2.2.2.2.2.2.2.2.2.2.1
def am_T.KI (t : am_T) := t.2.2.2.2.2.2.2.2.2.2.2.1
def am_T.KL (t : am_T) := t.2.2.2.2.2.2.2.2.2.2.2.2.1
/-- links to Object's constructor, to arraycopy -/
def am_T.OI (t : am_T) := t.2.2.2.2.2.2.2.2.2.2.2.2.2.1
def am_T.AC (t : am_T) := t.2.2.2.2.2.2.2.2.2.2.2.2.2.2.1
/-- links to a nest mate's constructor: index, method -/
def am_T.NL (t : am_T) := t.2.2.2.2.2.2.2.2.2.2.2.2.2.2.2.1
/-- links to Math: index, which -/
def am_T.MM (t : am_T) := t.2.2.2.2.2.2.2.2.2.2.2.2.2.2.2.2
def am_pOK (t : am_T) (x1 x3 x4 x5 : Nat) : Bool := match t.P x1 with
  | some (_, _, a, b, c) => Nat.beq a x3 && Nat.beq b x4 && Nat.beq c x5
  | none => false
def am_i32b (v : Int) : Bool := decide (-2147483648 ≤ v) && decide (v < 2147483648)
def am_i64b (v : Int) : Bool := decide (-9223372036854775808 ≤ v) && decide (v < 9223372036854775808)
def am_tsb (pc : Nat) : Int → List Int → List (Int × Nat) → Bool
  | _, [], [] => true
  | lo, o :: os, (a, t) :: l => decide (a = lo) && decide ((pc : Int) + o = (t : Int)) && am_tsb pc (lo + 1) os l
  | _, _, _ => false
theorem am_tsb_ok {pc : Nat} : ∀ (os : List Int) (lo : Int) (l : List (Int × Nat)), am_tsb pc lo os l = true → am_tsOK pc lo os l
  | [], _, [], _ => trivial
  | o :: os, lo, (a, t) :: l, h => by
    simp only [am_tsb, Bool.and_eq_true, decide_eq_true_eq] at h
    exact ⟨h.1.1, h.1.2, am_tsb_ok os (lo + 1) l h.2⟩
def am_lsb (pc : Nat) : List (Int × Int) → List (Int × Nat) → Bool
  | [], [] => true
  | (a, o) :: os, (b, t) :: l => decide (a = b) && decide ((pc : Int) + o = (t : Int)) && am_lsb pc os l
  | _, _ => false
theorem am_lsb_ok {pc : Nat} : ∀ (os : List (Int × Int)) (l : List (Int × Nat)), am_lsb pc os l = true → am_lsOK pc os l
  | [], [], _ => trivial
  | (a, o) :: os, (b, t) :: l, h => by
    simp only [am_lsb, Bool.and_eq_true, decide_eq_true_eq] at h
    exact ⟨h.1.1, h.1.2, am_lsb_ok os l h.2⟩
/-- what is checked of an entry beside its decoding -/
def am_eX (t : am_T) (ft : Nat → List Nat) (fin : Nat → Nat → Bool) (e3 e4 oci o mL pc : Nat) (ini : Bool) (E : am_e) : Bool := match E with
  | (ins, nx, v, x1, x2, x3, x4, x5, ts) => match ins with
    | .iload k | .lload k | .aload k => Nat.beq x1 k
    | .iload_n k | .lload_n k | .aload_n k => Nat.beq x1 k.val
    | .istore k | .astore k => Nat.beq x1 k && Nat.blt k mL
    | .istore_n k | .astore_n k => Nat.beq x1 k.val && Nat.blt k.val mL
    | .lstore k => Nat.beq x1 k && Nat.blt (k + 1) mL
    | .lstore_n k => Nat.beq x1 k.val && Nat.blt (k.val + 1) mL
    | .iinc k _ => Nat.beq x1 k && Nat.blt k mL
    | .iconst n => decide (Int32.ofInt n = Int32.ofInt v) && am_i32b v
    | .bipush n => decide ((Int8.ofInt n).toInt32 = Int32.ofInt v) && am_i32b v
    | .sipush n => decide ((Int16.ofInt n).toInt32 = Int32.ofInt v) && am_i32b v
    | .lconst n => decide (Int64.ofNat n.val = Int64.ofInt v) && am_i64b v
    | .ldc k | .ldc_w k => decide ((k, v) ∈ t.KI o) && am_i32b v
    | .ldc2_w k => decide ((k, v) ∈ t.KL o) && am_i64b v
    | .getfield k => decide ((k, x1, x2) ∈ t.FL o) && decide ((ft x1)[x2]? = some x3)
    | .putfield k => decide ((k, x1, x2) ∈ t.FL o) && decide ((ft x1)[x2]? = some x3) && (!fin x1 x2 || (ini && Nat.beq x1 oci))
    | .aaload => Nat.beq x1 3 || Nat.beq x1 4
    | .aastore => (Nat.beq x1 3 && Nat.beq x2 e3) || (Nat.beq x1 4 && Nat.beq x2 e4)
    | .goto f => decide ((pc : Int) + f = (x1 : Int))
    | .ifCond _ f | .if_icmp _ f => decide ((pc : Int) + f = (x1 : Int))
    | .tableswitch df lo hi offs => am_tsb pc lo offs.toList ts && decide (hi + 1 = lo + offs.size) && decide ((pc : Int) + df = (x1 : Int))
    | .lookupswitch df ps => am_lsb pc ps.toList ts && (ps.toList.zip (ps.toList.drop 1)).all (fun (a, next) => a.1 < next.1) && decide ((pc : Int) + df = (x1 : Int))
    | .new k => decide ((k, x1) ∈ t.CL o) && Nat.beq x2 (ft x1).length
    | .newarray a => (Nat.beq x1 0 && decide (a = .int)) || (Nat.beq x1 1 && decide (a = .long)) || (Nat.beq x1 2 && decide (a = .byte))
    | .anewarray k => decide ((k, x1) ∈ t.AL o)
    | .invokevirtual k => decide ((k, x1) ∈ t.ML o) && am_pOK t x1 x3 x4 x5 && Nat.beq (t.mi x1).1 0 && Nat.beq x2 ((t.mi x1).2.1 + 1) && Nat.beq v.toNat (t.mi x1).2.2
    | .invokestatic k => (match v with
      | 1 => decide (k ∈ t.AC o)
      | 3 => decide ((k, 3) ∈ t.MM o)
      | 4 => decide ((k, 4) ∈ t.MM o)
      | 5 => decide ((k, 5) ∈ t.MM o)
      | _ => decide ((k, x1) ∈ t.ML o) && am_pOK t x1 x3 x4 x5 && Nat.beq (t.mi x1).1 1 && Nat.beq x2 (t.mi x1).2.1)
    | .invokespecial k => (match v with
      | 2 => decide (k ∈ t.OI o)
      | _ => (decide ((k, x1) ∈ t.ML o) || decide ((k, x1) ∈ t.NL o)) && am_pOK t x1 x3 x4 x5 && Nat.beq (t.mi x1).1 2 && Nat.beq x2 ((t.mi x1).2.1 + 1) && Nat.ble 3 v.toNat)
    | _ => true
def am_isSw : Instr → Bool
  | .tableswitch _ _ _ _ | .lookupswitch _ _ => true
  | _ => false
def am_eD (cc : ByteArray) (pc : Nat) (E : am_e) : Bool := decide (decode cc pc = .ok (E.1, E.2.1 - pc)) && Nat.blt pc E.2.1 && (am_isSw E.1 || Nat.beq E.2.1 (pc + am_len E.1))
def am_rtOK (rt : Nat) (ret : Option FieldType) : Prop := match rt with
  | 0 => ret = none
  | 1 => ret = some .int
  | 2 => ret = some .long
  | 3 => ∃ C, ret = some (.object C)
  | 4 => ret = some .boolean
  | _ => False
/-- what is known of a program's tables -/
def am_TOK (Ts : List Cond) (cl : List vw_C) (ft : Nat → List Nat) (nw : List (String × Nat × MethodName × String)) (C3 C4 : String) (fin : Nat → Nat → Bool) (e3 e4 : Nat) (oci : Nat → Nat) (t : am_T) : Prop :=
  (∀ o k c f, (k, c, f) ∈ t.FL o → ∃ (C : String) (T : u_T) (N : Nat), cl[c]? = some (C, T, N) ∧ Cond.fieldLink (t.cn o) k (T f).1 (T f).2.1 (T f).2.2.1 ∈ Ts ∧ fin c f = (T f).2.2.2 ∧ (T f).1 = C)
  ∧ (∀ o k z, (k, z) ∈ t.ML o → Cond.methodLink (t.cn o) k (t.nm z) ∈ Ts)
  ∧ (∀ o k z, (k, z) ∈ t.NL o → ∃ host, (t.cn o, k, t.nm z, host) ∈ nw)
  ∧ (∀ o k c, (k, c) ∈ t.CL o → ∃ (C : String) (T : u_T) (N : Nat), cl[c]? = some (C, T, N) ∧ Cond.classLink (t.cn o) k C ∈ Ts ∧ Cond.instantiable C N ∈ Ts ∧ Cond.initialized C ∈ Ts)
  ∧ (∀ o k x, (k, x) ∈ t.AL o → (x = 3 ∧ Cond.classLink (t.cn o) k C3 ∈ Ts) ∨ (x = 4 ∧ Cond.classLink (t.cn o) k C4 ∈ Ts))
  ∧ (∀ o k v, (k, v) ∈ t.KI o → Cond.constant (t.cn o) k (Int32.ofInt v) ∈ Ts)
  ∧ (∀ o k v, (k, v) ∈ t.KL o → Cond.constantLong (t.cn o) k (Int64.ofInt v) ∈ Ts)
  ∧ (∀ o k, k ∈ t.OI o → Cond.methodLink (t.cn o) k Lib.objectInit ∈ Ts ∧ Cond.instanceMethod Lib.objectInit ∈ Ts ∧ Cond.code Lib.objectInit ⟨#[0xb1]⟩ 1 none ∈ Ts)
  ∧ (∀ o k, k ∈ t.AC o → Cond.methodLink (t.cn o) k arraycopyName ∈ Ts ∧ Cond.native arraycopyName ∈ Ts ∧ Cond.static arraycopyName ∈ Ts ∧ Cond.initialized "java/lang/System" ∈ Ts)
  ∧ (∀ o k x, (k, x) ∈ t.MM o → (x = 3 ∧ Cond.methodLink (t.cn o) k Lib.Math.max.name ∈ Ts ∧ Cond.static Lib.Math.max.name ∈ Ts ∧ Cond.initialized "java/lang/Math" ∈ Ts ∧ Cond.code Lib.Math.max.name Lib.Math.max.code 2 (some .int) ∈ Ts) ∨ (x = 4 ∧ Cond.methodLink (t.cn o) k Lib.Math.min.name ∈ Ts ∧ Cond.static Lib.Math.min.name ∈ Ts ∧ Cond.initialized "java/lang/Math" ∈ Ts ∧ Cond.code Lib.Math.min.name Lib.Math.min.code 2 (some .int) ∈ Ts) ∨ (x = 5 ∧ Cond.methodLink (t.cn o) k Lib.MathLoose.min_long.x ∈ Ts ∧ Cond.static Lib.MathLoose.min_long.x ∈ Ts ∧ Cond.initialized "java/lang/Math" ∈ Ts ∧ Cond.code Lib.MathLoose.min_long.x Lib.MathLoose.min_long.code 4 (some .long) ∈ Ts))
  ∧ nativeFrameWords "java/lang/System" "arraycopy" 5 ≤ 31
  ∧ (Cond.arrayClass .int ∈ Ts ∧ Cond.arrayClass .long ∈ Ts ∧ Cond.arrayClass .byte ∈ Ts)
  ∧ (∃ T N, cl[e3]? = some (C3, T, N)) ∧ (∃ T N, cl[e4]? = some (C4, T, N))
  ∧ (∀ o c, oci o = c → ∀ C T N, cl[c]? = some (C, T, N) → C = t.cn o)
  ∧ am_clOK Ts cl ft ∧ am_good Ts
  ∧ ∀ z cd mL rt mc ms, t.P z = some (cd, mL, rt, mc, ms) → am_site Ts (t.nm z) (t.bz z) mL (t.rT z) (t.mi z).2.1 ∧ plainName (t.nm z).cls = true ∧ (t.nm z).cls = t.cn (t.oc z) ∧ am_rtOK rt (t.rT z)
      ∧ ((t.mi z).1 = 0 → Cond.instanceMethod (t.nm z) ∈ Ts ∧ Cond.selects (t.nm z).cls (t.nm z) (t.nm z) ∈ Ts ∧ ∃ T N, cl[(t.mi z).2.2]? = some ((t.nm z).cls, T, N))
      ∧ ((t.mi z).1 = 1 → Cond.static (t.nm z) ∈ Ts)
      ∧ ((t.mi z).1 = 2 → Cond.instanceMethod (t.nm z) ∈ Ts ∧ (t.nm z).name = "<init>" ∧ t.rT z = none)
      ∧ ∀ q ∈ cd, am_eD (t.bz z) q.1 q.2 = true ∧ am_eX t ft fin e3 e4 (oci (t.oc z)) (t.oc z) mL q.1 (Nat.beq (t.mi z).1 2) q.2 = true
