/-! THE CLAIM OUT OF ONE WALK OF THE LAW'S BODY. Your part is whole_start (and what it stands on); all else here is the same for every law, but numbers. -/
def R_law : String := "SentenceMakerLaw"
def lw_P (b : Addr) (xs : List Int32) (args : Array Value) (s : State) : Prop := args = #[.ref b] ∧ s.IntsAt b xs ∧ xs.length ≤ 3072 ∧ (Jvm.Cond.and given_1 narrow_1).before args s = true
def lw_Q (_ : Array Value) (s : State) (o : Outcome) (t : State) : Prop := o = .returned (some (.int 1)) ∧ Framed s o t [] 600000 7302250
def lw_Z (below : List Frame) (a : Array Value) (s : State) : State → Prop := fun t => ∃ o, t.status = .running ∧ Ended t below o ∧ lw_Q a s o t
/-- the law's own end, with 1 on the stack, nothing written that was there before, its room as the claim has it -/
theorem lw_ret {p : Program} {l : Launch} {e : Env} {s : State} {m : MethodId} {below : List Frame} {meth : Method} {c : Code} {b : Nat} (hx : p.tables.exec = Jvm.exec) (hb : c.code = code) (hr : meth.sig.returnType = ret) (hlocks : meth.locks = false) {pc : Nat} {H : Heap} {ls : Array Slot} (hdg : decode code pc = .ok (.ireturn, 1)) : W p l e room_1 s m #[Value.ref b] below meth c H [] 600000 7302250 (lw_Z below #[Value.ref b] s) (F0 m pc ls [.int 1]) := by
  intro T hT X
  obtain ⟨fs, hret, hrun, hended, hW, hframe⟩ := X.leave (v := some (.int 1)) (hlocks := hlocks) (fun h => by rw [hr] at h; cases h)
  have hmeth' : T.vm.method? m = some meth := X.method'
  refine ⟨T.setFrames fs, ?_, .returned (some (.int 1)), hrun, hended, rfl, ⟨_, rfl⟩, hW, hframe⟩
  jvm_step X.here [X.here.top, hx, hb, hdg, hmeth', hr, ret, narrow_b1]
  (try refine ⟨rfl, ?_⟩); (try refine ⟨rfl, ?_⟩)
  first | (intro acts; rw [hret _ acts rfl rfl rfl]) | rw [hret _ _ rfl rfl rfl]
  exact Steps.refl _
/-- what holds at the law's entry: the machine, the code, the tables' words (any of lw_tbl by 'hts w (by decide +kernel)'), the script of L ints xs at the cell b, what the Statement gives of the start (any of its parts by flat_of_before) -/
def lw_At (p : Program) (s : State) (m : MethodId) (meth : Method) (c : Code) (b L : Nat) (xs : Nat → Int32) : Prop :=
  p.tables.exec = Jvm.exec ∧ c.code = code ∧ meth.sig.returnType = ret ∧ c.maxLocals = 4 ∧ s.vm.findClass R_law = some m.cls ∧ (∀ w ∈ lw_tbl, w.before #[Value.ref b] s = true) ∧ va_X b L xs s s.heap ∧ b < s.heap.size ∧ meth.locks = false ∧ (Jvm.Cond.and given_1 narrow_1).before #[Value.ref b] s = true

def am_LLa : List (Nat × Nat × Nat) := [(9, 166, 193), (12, 222, 1753), (13, 167, 796), (17, 223, 1898), (18, 168, 800), (22, 239, 1902), (23, 169, 808), (27, 253, 1921), (28, 170, 920), (31, 254, 1985), (32, 171, 924), (36, 255, 1989), (37, 172, 946), (41, 256, 2004), (42, 173, 951), (45, 257, 2008), (46, 174, 961), (49, 258, 2024), (50, 175, 965), (53, 285, 2028), (54, 176, 1295), (57, 286, 2128), (58, 177, 1299), (61, 287, 2132), (62, 178, 1304), (65, 289, 2136), (66, 179, 1308), (69, 292, 2144), (70, 180, 1312), (73, 297, 2168), (74, 181, 1324), (77, 298, 2176), (78, 182, 1336), (81, 300, 2180), (82, 183, 1349), (86, 301, 2200), (87, 184, 1353), (90, 308, 2204), (91, 185, 1380), (94, 309, 2232), (95, 186, 1384), (99, 310, 2236), (100, 187, 1389), (103, 311, 2240), (104, 188, 1398), (107, 316, 2248), (108, 189, 1417), (111, 317, 2272), (112, 190, 1426), (115, 318, 2276), (116, 191, 1438), (119, 295, 2152), (120, 192, 1446), (123, 296, 2164), (124, 193, 1455), (127, 320, 2280), (128, 194, 1471), (132, 328, 2288), (133, 195, 1521), (137, 330, 2311), (138, 196, 1549), (141, 331, 2323), (142, 197, 1553), (146, 333, 2327), (147, 198, 1649), (150, 340, 2364), (151, 199, 1685), (154, 344, 2368), (155, 200, 1689), (158, 345, 2380), (159, 201, 1693), (162, 350, 2384), (163, 202, 1743), (166, 351, 2404), (167, 203, 1747), (170, 240, 1910)]
theorem am_LL_ok : am_LLa.all (fun e => am_wB e.2.2 (.methodLink R_law e.1 (am_nm e.2.1))) = true := by decide +kernel
theorem am_LL {i z pl : Nat} (h : (i, z, pl) ∈ am_LLa) : Cond.methodLink R_law i (am_nm z) ∈ am_Ts := am_wB_ok (List.all_eq_true.mp am_LL_ok _ h)
/-- a call of an instance method out of the law -/
theorem lw_call {p : Program} {l : Launch} {e : Env} {s : State} {m : MethodId} {below : List Frame} {meth : Method} {c : Code} {b : Nat} {D : va_G} {cs : Nat → ClassId} {A : Nat → Prop} {ad : List Nat} {h h1 : am_h} {H : Heap} {locs : List Loc} {Q : State → Prop} {cls : Array Slot} {pc : Nat}
    (hx : p.tables.exec = Jvm.exec) (hb : c.code = code) (hml : c.maxLocals = 4) (hown : s.vm.findClass R_law = some m.cls) (hts : ∀ w ∈ am_Ts, w.before #[Value.ref b] s = true) (hK : am_K D am_cl cs am_C3 am_C4 am_nw s) (hA : ∀ q, s.heap.size ≤ q → A q) (hR : am_RP D am_cl am_ft cs A ad h H) (hS : va_S A s.heap H locs) (hsz : cls.size = 4)
    {z n idx pl k ci F : Nat} {cdz : List (Nat × am_e)} {mLz rtz : Nat} {r : Int} {As : List am_v} {rest : List Value} (hz : am_P z = some (cdz, mLz, rtz, 0, 0)) (hmi : am_mi z = (0, n, ci)) (hl : (idx, z, pl) ∈ am_LLa) (hk : k < h.1.1) (hkk : (h.1.2.1 k).1 = ci + 5) (hn : As.length = n) (hO : ∀ v ∈ As, am_ok h.1.1 v) (hw : (rest.map fun v => v.category).sum ≤ 8)
    (hcal : am_call am_P 1600 F z (.inr (.inr (k + 1)) :: As) h = some (r, h1)) (hg : h1.1.1 = h.1.1) (hd : decode code pc = .ok (.invokevirtual idx, 3))
    (kk : ∀ H1 locs1, am_RP D am_cl am_ft cs A ad h1 H1 → va_S A s.heap H1 locs1 → am_rok h1.1.1 rtz r → W p l e room_1 s m #[Value.ref b] below meth c H1 locs1 600000 7302250 Q (F0 m (pc + 3) cls ((am_rvv ad rtz r).toList ++ rest))) :
    W p l e room_1 s m #[Value.ref b] below meth c H locs 600000 7302250 Q (F0 m pc cls ((As.map (am_cv ad)).reverse ++ .ref (ad.getD k 0) :: rest)) := by
  obtain ⟨hsite, hpl, hcn, hrt, hk0, -, -, -⟩ := am_TOK_ok.2.2.2.2.2.2.2.2.2.2.2.2.2.2.2.2.2 z cdz mLz rtz 0 0 hz
  obtain ⟨w2, w3, T, N, hc⟩ := hk0 (by show (am_mi z).1 = 0; rw [hmi])
  have hc : am_cl[(am_mi z).2.2]? = some ((am_nm z).cls, T, N) := hc
  have hsite : am_site am_Ts (am_nm z) (am_bz z) mLz (am_rT z) (am_mi z).2.1 := hsite
  rw [hmi] at hc hsite
  obtain ⟨s1, s2, s3, s4⟩ := hsite
  have hG := am_TOK_ok.2.2.2.2.2.2.2.2.2.2.2.2.2.2.2.2.1
  have hG2 : GoodIn am_Ts (wsV R_law idx (am_nm z).cls (am_nm z) (.code (am_nm z) (am_bz z) mLz (am_rT z) :: am_Ts)) := am_goodIn hG (fun w hw => by
    unfold wsV at hw
    rcases List.mem_append.mp hw with q | q
    · simp only [List.mem_cons, List.mem_nil_iff, or_false] at q
      rcases q with rfl | rfl | rfl | rfl
      · exact am_LL hl
      · exact w2
      · exact w3
      · exact s1
    · rcases List.mem_cons.mp q with rfl | q
      · exact s2
      · exact q)
  have ev : am_cv ad (.inr (.inr (k + 1))) = .ref (ad.getD k 0) := by show va_rf _ = _; rw [am_rv_at (by rw [hR.1]; omega)]; rfl
  have cw := cwV (R := room_1) (rm := am_rm 1600 0 0) (mc := 0) (ms := 0) n hts hG2 rfl rfl rfl ⟨rfl, s3⟩ ⟨by show 1600 + 1 ≤ 2048; omega, by show 8 + (mLz + 11) + 1600 * 50 ≤ 84000; omega⟩
  have hM := am_snd (D := D) (cs := cs) (A := A) l am_TOK_ok 1600 F z (.inr (.inr (k + 1)) :: As) h r h1 hcal cdz mLz rtz 0 0 hz ad (List.forall_mem_cons.mpr ⟨by show k + 1 ≤ h.1.1; omega, hO⟩)
  have hrun := va_runV (rest := rest) (g := F0 m pc cls ((As.map (am_cv ad)).reverse ++ .ref (ad.getD k 0) :: rest)) (locs := locs) (cells := 600000) (slots := 7302250) (e := e) (below := below) (meth := meth) ⟨hx, hb, hml, hown, hts⟩ hM cw (H := H) (b := ad.getD k 0) (As := As.map (am_cv ad)) ⟨am_Pc_blind, va_recv hK.1 hR.2.1 hc (by have := am_wl_get (ft := am_ft) (cs := cs) (ad := ad) hk; rw [am_el_obj hkk] at this; exact this), fun U hU hW => ⟨by rw [List.map_cons, ev], by rw [hU]; exact hR, hK.warm hW, fun q hq => by rw [hU] at hq; exact hA q (Nat.le_trans hS.1 hq)⟩⟩ rfl (by rw [List.length_map]; exact hn) hsz rfl (lv_room hw) hd ⟨Nat.le_refl _, Nat.le_refl _⟩
  intro TT hT X
  obtain ⟨v, st₀, tt, T', L, h0, X', hLf, e1, e2, ⟨⟨t', hv, hRP, hrk⟩, hzz, hkk2⟩, stp⟩ := hrun TT hT X
  have hv := Outcome.returned.inj hv
  subst hv
  rw [h0] at hzz hkk2
  have ht : t' = [] := by
    have q1 := hRP.1
    have q2 := hR.1
    rw [List.length_append] at q1
    exact List.length_eq_zero_iff.mp (by omega)
  subst ht
  rw [List.append_nil] at hRP stp
  obtain ⟨t2, a1, b1⟩ := kk T'.heap (locs ++ L) (by rw [e1]; exact hRP)
    ⟨Nat.le_trans hS.1 (by rw [e1]; exact hzz), fun q g1 g2 => by rw [e1, hkk2 q (Nat.lt_of_lt_of_le g1 hS.1) g2]; exact hS.2.1 q g1 g2, fun q hq => by
      rcases List.mem_append.mp hq with g | g
      · exact hS.2.2 q g
      · exact hLf q g⟩ hrk T' rfl X'
  exact ⟨t2, stp t2 a1, b1⟩
/-- an int of the script -/
theorem lw_cv (ad : List Nat) (v : Int32) : am_cv ad (.inl v.toInt) = .int v := congrArg Value.int (Int32.ofInt_toInt v)
theorem lw_arg {p : Program} {l : Launch} {e : Env} {s : State} {m : MethodId} {below : List Frame} {meth : Method} {c : Code} {b L : Nat} {xs : Nat → Int32} {A : Nat → Prop} {H : Heap} {locs : List Loc} {cells slots : Nat} {Q : State → Prop} {cls : Array Slot} {pc i : Nat} {rest : List Value} (k : Nat) {kk : Int} (ad : List Nat)
    (hx : p.tables.exec = Jvm.exec) (hb : c.code = code) (hX : va_X b L xs s s.heap) (hbl : b < s.heap.size) (hbA : ¬ A b) (hS : va_S A s.heap H locs) (h0 : cls[0]? = some (.val (.ref b))) (h3 : cls[3]? = some (.val (.int (Int32.ofInt (i : Int))))) (hi : i + 6 ≤ L) (hL : L ≤ 3072) (hk : k ≤ 5) (hkk : kk = (k : Int))
    (d0 : decode code pc = .ok (.aload_n 0, 1)) (d1 : decode code (pc + 1) = .ok (.iload_n 3, 1)) (d2 : decode code (pc + 2) = .ok (.iconst kk, 1)) (d3 : decode code (pc + 3) = .ok (.iadd, 1)) (d4 : decode code (pc + 4) = .ok (.iaload, 1))
    (K : W p l e room_1 s m #[Value.ref b] below meth c H locs cells slots Q (F0 m (pc + 5) cls (am_cv ad (.inl (xs (i + k)).toInt) :: rest))) : W p l e room_1 s m #[Value.ref b] below meth c H locs cells slots Q (F0 m pc cls rest) := by
  subst hkk
  have er : am_i32 ((i : Int) + (k : Int)) := by unfold am_i32; omega
  have e1 : Int32.ofInt (i : Int) + Int32.ofInt (k : Int) = Int32.ofInt ((i : Int) + (k : Int)) := (Int32.ofInt_add _ _).symm
  rw [lw_cv] at K
  refine lv_aload_n hx hb d0 rfl h0 ?_
  refine lv_iload_n hx hb d1 rfl h3 ?_
  refine lv_iconst (v := Int32.ofInt (k : Int)) hx hb d2 rfl ?_
  refine lv_iadd hx hb d3 ?_
  rw [e1]
  refine va_sld hx hb hX hbl hbA hS (am_in er (by omega) (by omega)) d4 ?_
  rw [am_nat32 er, show ((i : Int) + (k : Int)).toNat = i + k by omega]
  exact K
