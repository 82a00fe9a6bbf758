theorem am_FL_ok : am_FLa.all (fun e => match am_cl[e.2.2.1]? with
    | some (C, T, _) => am_wB e.2.2.2.2 (.fieldLink (am_cn e.1) e.2.1 (T e.2.2.2.1).1 (T e.2.2.2.1).2.1 (T e.2.2.2.1).2.2.1) && decide ((T e.2.2.2.1).1 = C)
    | none => false) = true := by decide +kernel
theorem am_ML_ok : am_MLa.all (fun e => am_wB e.2.2.2 (.methodLink (am_cn e.1) e.2.1 (am_nm e.2.2.1))) = true := by decide +kernel
theorem am_NL_ok : am_NLa.all (fun e => decide ((am_cn e.1, e.2.1, am_nm e.2.2, "SentenceMaker") ∈ am_nw)) = true := by decide +kernel
def am_inL : List (Nat × Nat) := [(601, 181), (354, 176), (494, 179), (200, 173), (361, 177), (429, 178), (277, 174), (304, 175), (703, 183), (542, 180), (678, 182), (192, 172), (1752, 184)]
theorem am_CL_ok : am_CLa.all (fun e => match am_cl[e.2.2.1]? with
    | some (C, _, N) => am_wB e.2.2.2 (.classLink (am_cn e.1) e.2.1 C) && am_wB (am_inL.getD e.2.2.1 (0, 0)).1 (.instantiable C N) && am_wB (am_inL.getD e.2.2.1 (0, 0)).2 (.initialized C)
    | none => false) = true := by decide +kernel
theorem am_AL_ok : am_ALa.all (fun e => (Nat.beq e.2.2.1 3 && am_wB e.2.2.2 (.classLink (am_cn e.1) e.2.1 am_C3)) || (Nat.beq e.2.2.1 4 && am_wB e.2.2.2 (.classLink (am_cn e.1) e.2.1 am_C4))) = true := by decide +kernel
theorem am_KI_ok : am_KIa.all (fun e => am_wB e.2.2.2 (.constant (am_cn e.1) e.2.1 (Int32.ofInt e.2.2.1))) = true := by decide +kernel
theorem am_KL_ok : am_KLa.all (fun e => am_wB e.2.2.2 (.constantLong (am_cn e.1) e.2.1 (Int64.ofInt e.2.2.1))) = true := by decide +kernel
theorem am_OI_ok : am_OIa.all (fun e => am_wB e.2.2 (.methodLink (am_cn e.1) e.2.1 Lib.objectInit)) = true := by decide +kernel
theorem am_AC_ok : am_ACa.all (fun e => am_wB e.2.2 (.methodLink (am_cn e.1) e.2.1 arraycopyName)) = true := by decide +kernel
theorem am_w1 : am_wB 197 (.instanceMethod Lib.objectInit) = true := by decide +kernel
theorem am_w2 : am_wB 198 (.code Lib.objectInit ⟨#[0xb1]⟩ 1 none) = true := by decide +kernel
theorem am_w3 : am_wB 912 (.native arraycopyName) = true := by decide +kernel
theorem am_w4 : am_wB 911 (.static arraycopyName) = true := by decide +kernel
theorem am_w5 : am_wB 185 (.initialized "java/lang/System") = true := by decide +kernel
theorem am_w6 : am_wB 274 (.arrayClass .int) = true := by decide +kernel
theorem am_w7 : am_wB 492 (.arrayClass .long) = true := by decide +kernel
theorem am_w8 : am_wB 1897 (.arrayClass .byte) = true := by decide +kernel
theorem am_w9 : nativeFrameWords "java/lang/System" "arraycopy" 5 ≤ 31 := by decide +kernel
theorem am_MM_ok : am_MMa.all (fun e => (Nat.beq e.2.2.1 3 && am_wB e.2.2.2 (.methodLink (am_cn e.1) e.2.1 Lib.Math.max.name)) || (Nat.beq e.2.2.1 4 && am_wB e.2.2.2 (.methodLink (am_cn e.1) e.2.1 Lib.Math.min.name)) || (Nat.beq e.2.2.1 5 && am_wB e.2.2.2 (.methodLink (am_cn e.1) e.2.1 Lib.MathLoose.min_long.x))) = true := by decide +kernel
theorem am_v1 : am_wB 186 (.initialized "java/lang/Math") = true := by decide +kernel
theorem am_v2 : am_wB 1198 (.static Lib.Math.max.name) = true := by decide +kernel
theorem am_v3 : am_wB 1199 (.code Lib.Math.max.name Lib.Math.max.code 2 (some .int)) = true := by decide +kernel
theorem am_v4 : am_wB 914 (.static Lib.Math.min.name) = true := by decide +kernel
theorem am_v5 : am_wB 915 (.code Lib.Math.min.name Lib.Math.min.code 2 (some .int)) = true := by decide +kernel
theorem am_v6 : am_wB 1510 (.static Lib.MathLoose.min_long.x) = true := by decide +kernel
theorem am_v7 : am_wB 1511 (.code Lib.MathLoose.min_long.x Lib.MathLoose.min_long.code 4 (some .long)) = true := by decide +kernel
def am_lyL : List (List Nat) := [[636, 638, 640, 642, 644, 646, 648, 650, 652, 654, 656, 658, 660, 662, 664, 666, 668, 670, 672, 674], [399, 401, 403, 405, 407, 409, 411, 413, 415, 417, 419, 421, 423, 425], [514, 516, 518, 520, 522, 524, 526, 528, 530, 532, 534, 536, 538], [253, 255, 257, 259, 261, 263, 265, 267, 269, 271], [371, 373], [457, 459, 461, 463, 465, 467, 469, 471, 473, 475, 477, 479, 481, 483, 485, 487, 489], [292, 294, 296, 298, 300], [328, 330, 332, 334, 336, 338, 340, 342, 344, 346, 348, 350], [720, 722, 724, 726, 728, 730, 732, 734, 736, 738], [567, 569, 571, 573, 575, 577, 579, 581, 583, 585, 587, 589, 591, 593, 595, 597], [689, 691, 693, 695, 697, 699], [759, 761, 763, 765, 767, 769, 771, 773, 775, 777, 779, 781, 783, 785, 787, 789, 791, 793], [1804, 1806, 1808, 1810, 1812, 1814, 1816, 1818, 1820, 1822, 1824, 1826, 1828, 1830, 1832, 1834, 1836, 1838, 1840, 1842, 1844, 1846, 1848, 1850, 1852, 1854, 1856, 1858, 1860, 1862, 1864, 1866, 1868, 1870, 1872, 1874, 1876, 1878, 1880, 1882, 1884, 1886, 1888, 1890, 1892, 1894]]
/-- a class's fields: their words, their types, names apart -/
def am_tyB (t : Nat) (d : String) : Bool := match t, parseFieldDescriptor d with
  | 0, some .int => true
  | 1, some .long => true
  | 2, some (.object _) => true
  | 2, some (.array _) => true
  | 3, some .boolean => true
  | _, _ => false
def am_clB (c : Nat) : Bool := match am_cl[c]? with
  | some (C, T, N) => (List.range N).all (fun k => am_wB ((am_lyL.getD c []).getD k 0) (u_lay C T k) && am_tyB ((am_ft c).getD k 9) (T k).2.2.1 && (List.range N).all (fun j => Nat.beq j k || decide ((T j).2.1 ≠ (T k).2.1))) && Nat.beq (am_ft c).length N && decide (C = am_cn c)
  | none => true
theorem am_clB_ok : (List.range 13).all am_clB = true := by decide +kernel
/-- a method -/
def am_rtB (rt : Nat) (r : Option FieldType) : Bool := match rt, r with
  | 0, none => true
  | 1, some .int => true
  | 2, some .long => true
  | 3, some (.object _) => true
  | 4, some .boolean => true
  | _, _ => false
def am_hB (z : Nat) : Bool := match am_PL[z]? with
  | none => true
  | some (_, mL, rt, _, _) => am_wB (am_pl z).1 (.initialized (am_nm z).cls) && am_cB (am_pl z).2.1 (am_nm z) mL (am_rT z) && decide ((am_nm z).cls ≠ "java/lang/invoke/MethodHandle" ∧ (am_nm z).cls ≠ "java/lang/invoke/VarHandle" ∧ (parseMethodDescriptor (am_nm z).desc).map (fun d => d.parameters.length) = some (am_mi z).2.1) && Nat.ble mL 31
      && plainName (am_nm z).cls && decide ((am_nm z).cls = am_cn (am_oc z)) && am_rtB rt (am_rT z)
      && (match (am_mi z).1 with
        | 0 => am_wB (am_pl z).2.2.1 (.instanceMethod (am_nm z)) && am_wB (am_pl z).2.2.2 (.selects (am_nm z).cls (am_nm z) (am_nm z)) && (match am_cl[(am_mi z).2.2]? with | some (C, _, _) => decide (C = (am_nm z).cls) | none => false)
        | 1 => am_wB (am_pl z).2.2.1 (.static (am_nm z))
        | 2 => am_wB (am_pl z).2.2.1 (.instanceMethod (am_nm z)) && decide ((am_nm z).name = "<init>") && decide (am_rT z = none)
        | _ => false)
def am_xB (z : Nat) : Bool := match am_PL[z]? with
  | none => true
  | some (cd, mL, _, _, _) => cd.all (fun q => am_eX am_t am_ft am_fn 3 4 (am_oc z) (am_oc z) mL q.1 (Nat.beq (am_mi z).1 2) q.2)
def am_dB (z : Nat) : Bool := match am_PL[z]? with
  | none => true
  | some (cd, _, _, _, _) => cd.all (fun q => am_eD (am_bz z) q.1 q.2)
