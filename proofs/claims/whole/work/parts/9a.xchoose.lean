/-! the class: the pairs of the cover are chosen -/
/-- what a pair would bring that is not marked -/
noncomputable def gai (B : Nat → Nat) (U : Nat → Prop) (k : Nat) : Nat := cnt (dc (fun m => nH B k m ∧ ¬ U m)) 1024
def mkd (B : Nat → Nat) (τ : Nat → Nat) (j m : Nat) : Prop := ∃ i, i < j ∧ nH B (τ i) m
noncomputable def opn (B : Nat → Nat) (U : Nat → Prop) : Nat := cnt (dc (fun m => ¬ U m)) (gN B)
def cvF (M M' : (Nat → Int → Int)) : Prop := (∀ c, c < 93 ∨ 99 < c → M' c = M c) ∧ ∀ i : Int, i ≠ 5 → i ≠ 12 → M' 93 i = M 93 i
/-- marks, gains, and how many are open -/
def mgI (B : Nat → Nat) (U : Nat → Prop) (M : (Nat → Int → Int)) : Prop := lrw 99 0 U M ∧ (∀ k : Nat, k < gN B → M 95 (k : Int) = (gai B U k : Int)) ∧ M 93 12 = (opn B U : Int)
section S9a
variable {B : Nat → Nat} {M M0 : (Nat → Int → Int)} {d : Nat} {Q : Int → (Nat → Int → Int) → Prop} {U : Nat → Prop}
theorem gai_le {k : Nat} : gai B U k ≤ 1024 := cnt_le 1024
theorem gai_cong {U' : Nat → Prop} {k : Nat} (hk : k < gN B) (h : ∀ m, m < gN B → (U m ↔ U' m)) : gai B U k = gai B U' k := cnt_cg (fun m _ => ⟨fun z => ⟨z.1, fun y => z.2 ((h m (nH_lt hk z.1)).mpr y)⟩, fun z => ⟨z.1, fun y => z.2 ((h m (nH_lt hk z.1)).mp y)⟩⟩)
theorem gai_step {k m : Nat} (hm : m < 1024) (hU : ¬ U m) : (nH B k m → gai B U k = gai B (fun x => U x ∨ x = m) k + 1) ∧ (¬ nH B k m → gai B U k = gai B (fun x => U x ∨ x = m) k) := by
  constructor
  · intro h
    unfold gai
    rw [← cnt_ins (P := fun x => nH B k x ∧ ¬ (U x ∨ x = m)) hm (fun z => z.2 (Or.inr rfl))]
    refine cnt_cg (fun x _ => ⟨fun z => ?_, fun z => ?_⟩)
    · by_cases e : x = m
      · exact Or.inr e
      · exact Or.inl ⟨z.1, fun y => y.elim z.2 e⟩
    · rcases z with z | z
      · exact ⟨z.1, fun y => z.2 (Or.inl y)⟩
      · rw [z]; exact ⟨h, hU⟩
  · intro h
    refine cnt_cg (fun x _ => ⟨fun z => ⟨z.1, fun y => y.elim z.2 (fun y => h (y ▸ z.1))⟩, fun z => ⟨z.1, fun y => z.2 (Or.inl y)⟩⟩)
theorem opn_step {m : Nat} (hm : m < gN B) (hU : ¬ U m) : opn B U = opn B (fun x => U x ∨ x = m) + 1 := by
  unfold opn
  rw [← cnt_ins (P := fun x => ¬ (U x ∨ x = m)) hm (fun z => z (Or.inr rfl))]
  refine cnt_cg (fun x _ => ⟨fun z => ?_, fun z => ?_⟩)
  · by_cases e : x = m
    · exact Or.inr e
    · exact Or.inl (fun y => y.elim z e)
  · rcases z with z | z
    · exact fun y => z (Or.inl y)
    · rw [z]; exact hU
theorem mgI_cong {U' : Nat → Prop} (h : mgI B U M) (e : ∀ m, m < 1024 → (U m ↔ U' m)) : mgI B U' M := by
  have n2 := gN_le (B := B)
  refine ⟨lrw_cong h.1 e, fun k hk => by rw [h.2.1 k hk, gai_cong hk (fun m hm => e m (by omega))], ?_⟩
  rw [h.2.2]; unfold opn; rw [cnt_cg (P := fun m => ¬ U m) (P' := fun m => ¬ U' m) (fun m hm => not_congr (e m (by omega)))]
theorem cvF_rf : cvF M M := ⟨fun _ _ => rfl, fun _ _ _ => rfl⟩
theorem cvF_tr {M1 M2 : (Nat → Int → Int)} (h : cvF M M1) (g : cvF M1 M2) : cvF M M2 := ⟨fun c a => (g.1 c a).trans (h.1 c a), fun i a b => (g.2 i a b).trans (h.2 i a b)⟩
/-- the gains of those that have a pair fall -/
theorem cp_hold {m : Nat} {a b : Int} (hm : m < gN B) (hU : ¬ U m) (hl : lst 98 (fun k => k < gN B ∧ nH B k m) M) (hG : ∀ k : Nat, k < gN B → M 95 (k : Int) = (gai B U k : Int)) (hk : ∀ M', wF1 95 M M' → (∀ k : Nat, k < gN B → M' 95 (k : Int) = (gai B (fun x => U x ∨ x = m) k : Int)) → ∀ c e : Int, am_x am_P am_gg (d + 1) am_k45 0 Q 35 [some (.inr (.inr 94)), none, some (.inl (a)), some (.inl (w32 (b + 1))), none, some (.inl (c)), some (.inl (e))] [] M' 0 0) : am_x am_P am_gg (d + 1) am_k45 0 Q 119 [some (.inr (.inr 94)), none, some (.inl (a)), some (.inl (b)), none, some (.inl (((cnt (dc (fun k => k < gN B ∧ nH B k m)) 1024 : Nat) : Int))), some (.inl (0))] [] M 0 0 := by
  have n2 := gN_le (B := B)
  obtain ⟨ν, l1, l2, l3⟩ := hl
  have cl := cnt_le (p := dc (fun k => k < gN B ∧ nH B k m)) 1024
  generalize hc : cnt (dc (fun k => k < gN B ∧ nH B k m)) 1024 = c at *
  refine p_for (S := (Nat → Int → Int)) (X := fun j M1 => am_x am_P am_gg (d + 1) am_k45 0 Q 119 [some (.inr (.inr 94)), none, some (.inl (a)), some (.inl (b)), none, some (.inl ((c : Int))), some (.inl (j))] [] M1 0 0) c (fun e M1 => wF1 95 M M1 ∧ ∀ k : Nat, k < gN B → ((∃ i, i < e ∧ ν i = k) → M1 95 (k : Int) = (gai B (fun x => U x ∨ x = m) k : Int)) ∧ ((∀ i, i < e → ν i ≠ k) → M1 95 (k : Int) = (gai B U k : Int))) ?_ ?_ 0 M (by omega) ⟨fun _ _ => rfl, fun k hk => ⟨fun ⟨i, hi, _⟩ => absurd hi (Nat.not_lt_zero i), fun _ => hG k hk⟩⟩
  · intro M1 ⟨f1, g1⟩
    refine (h_45_119_94 _ _ _ _ _ _ _).mpr ?_
    rw [if_neg (by omega)]
    refine hk M1 f1 (fun k hk => ?_) _ _
    by_cases z : nH B k m
    · obtain ⟨i, hi, e⟩ := l2 k (by omega) ⟨hk, z⟩
      exact (g1 k hk).1 ⟨i, hi, e⟩
    · rw [← (gai_step (by omega) hU).2 z]
      exact (g1 k hk).2 (fun i hi e => z (e ▸ (l1 i hi).2.2.2))
  · intro e M1 he ⟨f1, g1⟩ k
    obtain ⟨a1, a2, a3⟩ := l1 e he
    have own := (g1 (ν e) a3.1).2 (fun i hi => l3 i e hi he)
    have gl := gai_le (B := B) (U := U) (k := ν e)
    have st := (gai_step (by omega) hU).1 a3.2
    refine (h_45_119_94 _ _ _ _ _ _ _).mpr ?_
    rw [show M1 98 (e : Int) = (ν e : Int) by rw [f1 98 (by decide)]; exact a1, own, w32_s (i := e) (by omega), show w32 ((gai B U (ν e) : Int) - 1) = (gai B (fun x => U x ∨ x = m) (ν e) : Int) by rw [w32_i (by omega) (by omega)]; omega]
    rw [if_pos (by omega)]
    rw [if_pos (by omega)]
    rw [if_pos (by omega)]
    rw [if_pos (by omega)]
    refine k _ ⟨fun q hq => by rw [up_nc _ _ _ _ hq]; exact f1 q hq, fun q hq => ⟨?_, ?_⟩⟩
    · rintro ⟨i, hi, z⟩
      rw [up_ci]
      by_cases y : q = ν e
      · rw [if_pos (by omega), y]
      · rw [if_neg (by omega)]
        exact (g1 q hq).1 ⟨i, by
          by_cases x : i = e
          · exact absurd (z.symm.trans (by rw [x])) y
          · omega, z⟩
    · intro z
      rw [up_ci, if_neg (by have := z e (by omega); omega)]
      exact (g1 q hq).2 (fun i hi => z i (by omega))
theorem x_choosePair (hW : gW B) (h0 : pOK B M) {n j : Nat} (hn : n < gN B) (hj : j < 1024) (e5 : M 93 5 = (j : Int)) (hI : mgI B U M) (hQ : ∀ M', cvF M M' → M' 93 5 = ((j + 1 : Nat) : Int) → (∀ i : Int, M' 94 i = if i = (j : Int) then (n : Int) else M 94 i) → mgI B (fun m => U m ∨ nH B n m) M' → Q 0 M') : am_s am_P am_gg (d + 4) 45 [.inr (.inr 94), .inl (n : Int)] M Q := by
  have n2 := gN_le (B := B)
  refine (v_45_94 _ _ _ _).mpr ?_
  rw [e5, w32_s (by omega)]
  rw [if_pos (by omega)]
  generalize hM1 : am_up (am_up M 94 (j : Int) (n : Int)) 93 5 ((j + 1 : Nat) : Int) = M1
  have o1 : ∀ c, c ≠ 93 → c ≠ 94 → M1 c = M c := fun c a b => by rw [← hM1, up_nc _ _ _ _ a, up_nc _ _ _ _ b]
  have i1 : ∀ i : Int, i ≠ 5 → M1 93 i = M 93 i := fun i a => by rw [← hM1, up_ni _ _ _ _ a, up_nc _ _ _ _ (by decide)]
  have e51 : M1 93 5 = ((j + 1 : Nat) : Int) := by rw [← hM1, up_eq]
  have e94 : ∀ i : Int, M1 94 i = if i = (j : Int) then (n : Int) else M 94 i := fun i => by rw [← hM1, up_nc _ _ _ _ (by decide), up_ci]
  have h1 : pOK B M1 := pOK_eq h0 (fun c a b => o1 c (by omega) (by omega))
  refine x_listHad h1 hn (fun M2 f2 l2 => ?_)
  obtain ⟨ν, q1, q2, q3⟩ := l2
  have cl := cnt_le (p := dc (nH B n)) 1024
  generalize hc : cnt (dc (nH B n)) 1024 = c at *
  have I2 : mgI B U M2 := ⟨fun w hw => by rw [f2 99 (by decide), o1 99 (by decide) (by decide)]; exact hI.1 w hw, fun k hk => by rw [f2 95 (by decide), o1 95 (by decide) (by decide)]; exact hI.2.1 k hk, by rw [f2 93 (by decide), i1 12 (by decide)]; exact hI.2.2⟩
  refine am_x_le [some (.inr (.inr 94)), none, some (.inl ((c : Int))), some (.inl (((0 : Nat) : Int))), none, none, none] (am_lb_le _ _ ⟨rfl, rfl, rfl, trivial⟩) ?_
  refine p_for (S := (Nat → Int → Int)) (X := fun j M1 => am_x am_P am_gg (d + 3) am_k45 0 Q 35 [some (.inr (.inr 94)), none, some (.inl ((c : Int))), some (.inl (j)), none, none, none] [] M1 0 0) c (fun a M3 => ((∀ c, c ≠ 93 → c ≠ 95 → c ≠ 98 → c ≠ 99 → M3 c = M2 c) ∧ ∀ i : Int, i ≠ 12 → M3 93 i = M2 93 i) ∧ mgI B (fun m => U m ∨ ∃ i, i < a ∧ ν i = m) M3) ?_ ?_ 0 M2 (by omega) ⟨⟨fun _ _ _ _ _ => rfl, fun _ _ => rfl⟩, mgI_cong I2 (fun m _ => ⟨Or.inl, fun z => z.elim id (fun ⟨i, hi, _⟩ => absurd hi (Nat.not_lt_zero i))⟩)⟩
  · intro M3 ⟨⟨f3, g3⟩, I3⟩
    refine (h_45_35_94 _ _ _ _ _).mpr ?_
    rw [if_neg (by omega)]
    have e : ∀ m, m < 1024 → ((U m ∨ ∃ i, i < c ∧ ν i = m) ↔ (U m ∨ nH B n m)) := fun m hm => or_congr Iff.rfl ⟨fun ⟨i, hi, z⟩ => z ▸ (q1 i hi).2.2, fun z => q2 m hm z⟩
    refine hQ M3 ⟨fun k hk => ?_, fun i a b => ?_⟩ ?_ (fun i => ?_) (mgI_cong I3 e)
    · rw [f3 k (by omega) (by omega) (by omega) (by omega), f2 k (by omega), o1 k (by omega) (by omega)]
    · rw [g3 i b, f2 93 (by decide), i1 i a]
    · rw [g3 5 (by decide), f2 93 (by decide), e51]
    · rw [f3 94 (by decide) (by decide) (by decide) (by decide), f2 94 (by decide), e94]
  · intro a M3 ha ⟨⟨f3, g3⟩, I3⟩ k
    obtain ⟨b1, b2, b3⟩ := q1 a ha
    have hm := nH_lt hn b3
    have e97 : M3 97 (a : Int) = (ν a : Int) := by rw [f3 97 (by decide) (by decide) (by decide) (by decide)]; exact b1
    refine (h_45_35_94 _ _ _ _ _).mpr ?_
    rw [e97, show (6 : Int) = ((6 : Nat) : Int) from rfl, shr_div (by omega) (by omega), show (63 : Int) = ((2 ^ 6 - 1 : Nat) : Int) from rfl, and_mod (by omega) (by omega), show (2 : Nat) ^ 6 = 64 from rfl]
    rw [if_pos (by omega)]
    rw [if_pos (by omega)]
    rw [if_pos (by omega)]
    have wd := I3.1 (ν a / 64) (by omega)
    rw [show ((16 * 0 + ν a / 64 : Nat) : Int) = ((ν a / 64 : Nat) : Int) by omega] at wd
    have enu : 64 * (ν a / 64) + ν a % 64 = ν a := by omega
    refine ld_bit wd (by omega) (fun no => ?_) (fun yes => ?_)
    · rw [enu] at no
      rw [if_pos (by omega)]
      rw [if_pos (by omega)]
      have ol := opn_step (U := fun m => U m ∨ ∃ i, i < a ∧ ν i = m) hm no
      have oL : opn B (fun m => U m ∨ ∃ i, i < a ∧ ν i = m) ≤ gN B := cnt_le _
      generalize hM4 : am_up (am_up M3 99 ((ν a / 64 : Nat) : Int) (l_or (M3 99 ((ν a / 64 : Nat) : Int)) (l_shl 1 ((ν a % 64 : Nat) : Int)))) 93 12 (w32 ((M3 93 12) - 1)) = M4
      have o4 : ∀ c, c ≠ 93 → c ≠ 99 → M4 c = M3 c := fun c a b => by rw [← hM4, up_nc _ _ _ _ a, up_nc _ _ _ _ b]
      have i4 : ∀ i : Int, i ≠ 12 → M4 93 i = M3 93 i := fun i a => by rw [← hM4, up_ni _ _ _ _ a, up_nc _ _ _ _ (by decide)]
      have e12 : M4 93 12 = (opn B (fun m => (U m ∨ ∃ i, i < a ∧ ν i = m) ∨ m = ν a) : Int) := by rw [← hM4, up_eq, I3.2.2, w32_i (by omega) (by omega)]; omega
      have l4 : lrw 99 0 (fun m => (U m ∨ ∃ i, i < a ∧ ν i = m) ∨ m = ν a) M4 := fun w hw => by
        rw [← hM4, up_nc _ _ _ _ (by decide), up_ci]
        by_cases e : w = ν a / 64
        · subst e
          rw [if_pos (by omega)]
          exact ld_cong (ld_or wd (ld_one (b := ν a % 64) (by omega))) (fun k hk => or_congr Iff.rfl ⟨fun z => by omega, fun z => by omega⟩)
        · rw [if_neg (by omega)]
          exact ld_cong (I3.1 w hw) (fun k hk => ⟨Or.inl, fun z => z.elim id (fun z => absurd z (by omega))⟩)
      have h4 : pOK B M4 := pOK_eq h1 (fun c a b => by rw [o4 c (by omega) (by omega), f3 c (by omega) (by omega) (by omega) (by omega), f2 c (by omega)])
      refine x_listHolders hW h4 hm (fun M5 f5 l5 => ?_)
      refine am_x_le [some (.inr (.inr 94)), none, some (.inl ((c : Int))), some (.inl ((a : Int))), none, some (.inl (((cnt (dc (fun k => k < gN B ∧ nH B k (ν a))) 1024 : Nat) : Int))), some (.inl (0))] (am_lb_le _ _ ⟨rfl, rfl, rfl, rfl, rfl, trivial⟩) ?_
      refine cp_hold hm no l5 (fun k hk => by rw [f5 95 (by decide), o4 95 (by decide) (by decide)]; exact I3.2.1 k hk) (fun M6 f6 g6 x y => ?_)
      rw [w32_s (i := a) (by omega)]
      refine am_x_le [some (.inr (.inr 94)), none, some (.inl ((c : Int))), some (.inl (((a + 1 : Nat) : Int))), none, none, none] (am_lb_le _ _ ⟨rfl, rfl, rfl, trivial⟩) ?_
      have e : ∀ m, ((U m ∨ ∃ i, i < a ∧ ν i = m) ∨ m = ν a) ↔ (U m ∨ ∃ i, i < a + 1 ∧ ν i = m) := fun m => by
        constructor
        · rintro ((z | ⟨i, hi, z⟩) | z)
          · exact Or.inl z
          · exact Or.inr ⟨i, by omega, z⟩
          · exact Or.inr ⟨a, by omega, z.symm⟩
        · rintro (z | ⟨i, hi, z⟩)
          · exact Or.inl (Or.inl z)
          · by_cases q : i = a
            · subst q; exact Or.inr z.symm
            · exact Or.inl (Or.inr ⟨i, by omega, z⟩)
      refine k M6 ⟨⟨fun c a b x y => by rw [f6 c b, f5 c x, o4 c a y]; exact f3 c a b x y, fun i hi => by rw [f6 93 (by decide), f5 93 (by decide), i4 i hi]; exact g3 i hi⟩, mgI_cong (U := fun m => (U m ∨ ∃ i, i < a ∧ ν i = m) ∨ m = ν a) ⟨fun w hw => by rw [f6 99 (by decide), f5 99 (by decide)]; exact l4 w hw, g6, by rw [f6 93 (by decide), f5 93 (by decide), e12]⟩ (fun m _ => e m)⟩
    · rw [enu] at yes
      rw [w32_s (i := a) (by omega)]
      refine am_x_le [some (.inr (.inr 94)), none, some (.inl ((c : Int))), some (.inl (((a + 1 : Nat) : Int))), none, none, none] (am_lb_le _ _ ⟨rfl, rfl, rfl, trivial⟩) ?_
      have e : ∀ m, (U m ∨ ∃ i, i < a ∧ ν i = m) ↔ (U m ∨ ∃ i, i < a + 1 ∧ ν i = m) := fun m => by
        constructor
        · rintro (z | ⟨i, hi, z⟩)
          · exact Or.inl z
          · exact Or.inr ⟨i, by omega, z⟩
        · rintro (z | ⟨i, hi, z⟩)
          · exact Or.inl z
          · by_cases q : i = a
            · subst q; rw [← z]; exact yes
            · exact Or.inr ⟨i, by omega, z⟩
      exact k M3 ⟨⟨f3, g3⟩, mgI_cong I3 (fun m _ => e m)⟩
end S9a
