/-! the reference writes what YIELDS and CONTEXTS make -/
/-- letters written behind k that stood there -/
def wr (k : Nat) (l : List Nat) (M M' : (Nat → Int → Int)) : Prop := M' 173 29 = ((k + l.length : Nat) : Int) ∧ (∀ i : Nat, i < l.length → M' 186 ((k + i : Nat) : Int) = ((l.getD i 0 : Nat) : Int)) ∧ (∀ j : Int, j < (k : Int) → M' 186 j = M 186 j) ∧ (∀ c, c ≠ 173 → c ≠ 186 → M' c = M c) ∧ ∀ i : Int, i ≠ 29 → M' 173 i = M 173 i
/-- how many symbols are cheaper -/
def rk (K : Nat → Nat) (s : Nat) : Nat := cnt (fun t => decide (K t < K s)) 8
section S74
variable {B K X pos : Nat → Nat} {M : (Nat → Int → Int)} {d : Nat} {Q : Int → (Nat → Int → Int) → Prop} {r k : Nat}
theorem rk_lt {a b : Nat} (h : K a < K b) (ha : a < 8) : rk K a < rk K b := by
  have := cnt_lt (p := fun t => decide (K t < K a)) (q := fun t => decide (K t < K b)) (n := 8) (t := a) (fun j _ z => by simp only [decide_eq_true_eq] at z ⊢; omega) ha (by simpa using h) (by simp)
  exact this
theorem rk_le {a : Nat} : rk K a ≤ 8 := cnt_le 8
theorem wr_0 (h : M 173 29 = (k : Int)) : wr k [] M M := ⟨h, fun i hi => absurd hi (Nat.not_lt_zero i), fun _ _ => rfl, fun _ _ _ => rfl, fun _ _ => rfl⟩
theorem wr_tr {M1 M2 : (Nat → Int → Int)} {l1 l2 : List Nat} (h : wr k l1 M M1) (g : wr (k + l1.length) l2 M1 M2) : wr k (l1 ++ l2) M M2 := by
  obtain ⟨a1, a2, a3, a4, a5⟩ := h
  obtain ⟨b1, b2, b3, b4, b5⟩ := g
  refine ⟨?_, fun i hi => ?_, fun j hj => ?_, fun c x y => ?_, fun i hi => ?_⟩
  · rw [b1, List.length_append]; omega
  · rw [List.length_append] at hi
    by_cases q : i < l1.length
    · rw [b3 _ (by omega), a2 i q, List.getD_eq_getElem?_getD, List.getD_eq_getElem?_getD, List.getElem?_append_left q]
    · have := b2 (i - l1.length) (by omega)
      rw [show k + l1.length + (i - l1.length) = k + i by omega] at this
      rw [this, List.getD_eq_getElem?_getD, List.getD_eq_getElem?_getD, List.getElem?_append_right (by omega)]
  · rw [b3 j (by omega)]; exact a3 j hj
  · rw [b4 c x y]; exact a4 c x y
  · rw [b5 i hi]; exact a5 i hi
theorem wr_rb {M1 : (Nat → Int → Int)} {l : List Nat} (h : wr k l M M1) (hB : rb (M 174) 0 B) : rb (M1 174) 0 B := by rw [h.2.2.2.1 174 (by decide) (by decide)]; exact hB
theorem wr_yR {M1 : (Nat → Int → Int)} {l : List Nat} (h : wr k l M M1) (hB : yR K M) : yR K M1 := yR_eq hB (h.2.2.2.1 179 (by decide) (by decide)) (h.2.2.2.1 180 (by decide) (by decide)) (h.2.2.2.1 181 (by decide) (by decide))
theorem wr_xR {M1 : (Nat → Int → Int)} {l : List Nat} (h : wr k l M M1) (hB : xR B X M) : xR B X M1 := xR_eq hB (h.2.2.2.1 182 (by decide) (by decide)) (h.2.2.2.1 183 (by decide) (by decide)) (h.2.2.2.1 184 (by decide) (by decide)) (h.2.2.2.1 185 (by decide) (by decide))
theorem yR_own (hy : yR K M) {s : Nat} (hs : s < 8) (hN : K s ≠ NK) : M 181 (s : Int) = ((K s % 16 : Nat) : Int) := by
  obtain ⟨-, -, -, q⟩ := (hy s hs).resolve_left (fun z => hN z.1); exact q
theorem ptW_le {W : Nat → List Nat} {r f : Nat} : ∀ {n m : Nat}, n ≤ m → (ptW B W r f n).length ≤ (ptW B W r f m).length := by
  intro n m h
  induction m with
  | zero => have : n = 0 := by omega
            subst this; exact Nat.le_refl _
  | succ m ih =>
    by_cases e : n = m + 1
    · subst e; exact Nat.le_refl _
    · have := ih (by omega)
      show _ ≤ (ptW B W r f m ++ _).length
      rw [List.length_append]; omega
theorem m_writes1 (hW : gW B) (hp : ypos B pos) (hy : ySol B pos K) : ∀ (n : Nat) {g : Nat} {M : (Nat → Int → Int)} {Q : Int → (Nat → Int → Int) → Prop} {k : Nat}, (g < 8 ∨ (16 ≤ g ∧ g < 32)) → (g < 8 → K g ≠ NK ∧ rk K g < n) → rb (M 174) 0 B → yR K M → M 173 29 = (k : Int) → k + (sgW (yW B K) g).length ≤ 256 → (∀ M', wr k (sgW (yW B K) g) M M' → Q 0 M') → am_s am_P am_gg (d + n + 2) 267 [.inr (.inr 174), .inl (g : Int)] M Q := by
  intro n
  induction n with
  | zero =>
    intro g M Q k hg hK hB hR hk hl hQ
    have h8 : ¬ g < 8 := fun z => by have := (hK z).2; omega
    refine (v_267_174 _ _ _ _).mpr ?_
    have eW : sgW (yW B K) g = [g - 16] := by unfold sgW; rw [if_neg h8]
    rw [eW] at hl hQ
    have hl : k + 1 ≤ 256 := hl
    rw [if_neg (by omega)]
    rw [hk]
    rw [if_pos (by omega)]
    rw [w32_s (by omega), show w32 ((g : Int) - 16) = ((g - 16 : Nat) : Int) by rw [w32_i (by omega) (by omega)]; omega]
    refine hQ _ ⟨by rw [up_eq]; rfl, fun i hi => ?_, fun j hj => ?_, fun c x y => ?_, fun i hi => ?_⟩
    · have hi : i < 1 := hi
      have : i = 0 := by omega
      subst this
      rw [up_nc _ _ _ _ (by decide), up_ci, if_pos (by omega)]; rfl
    · rw [up_nc _ _ _ _ (by decide), up_ci, if_neg (by omega)]
    · rw [up_nc _ _ _ _ x, up_nc _ _ _ _ y]
    · rw [up_ni _ _ _ _ hi, up_nc _ _ _ _ (by decide)]
  | succ n ih =>
    intro g M Q k hg hK hB hR hk hl hQ
    by_cases h8 : g < 8
    · obtain ⟨hN, hrk⟩ := hK h8
      obtain ⟨ok, hsy, -, hr, -⟩ := y_own hW hp hy h8 hN
      have hn16 := hW.1
      obtain ⟨-, hz, hz4, -, hs⟩ := hW.2.2.2.1 _ hr
      have eW : sgW (yW B K) g = ptW B (yW B K) (K g % 16) 0 (gsz B (K g % 16)) := by unfold sgW; rw [if_pos h8]; exact yW_eq hW hp hy h8 hN
      rw [eW] at hl hQ
      refine (v_267_174 _ _ _ _).mpr ?_
      rw [if_pos (by omega)]
      rw [if_pos (by omega)]
      rw [yR_own hR h8 hN]
      have ls := @y_less B K pos hW hp hy g h8 hN
      generalize K g % 16 = r at *
      refine am_x_le [some (.inr (.inr 174)), none, some (.inl ((r : Int))), some (.inl (((0 : Nat) : Int)))] (am_lb_le _ _ ⟨rfl, rfl, rfl, trivial⟩) ?_
      refine p_for (S := (Nat → Int → Int)) (X := fun i M => am_x am_P am_gg (d + (n + 1) + 1) am_k267 0 Q 39 [some (.inr (.inr 174)), none, some (.inl ((r : Int))), some (.inl (i))] [] M 0 0) (gsz B r) (fun i M1 => wr k (ptW B (yW B K) r 0 i) M M1) ?_ ?_ 0 M (by omega) (wr_0 hk)
      · intro M1 w1
        refine (h_267_39_174 _ _ _ _ _).mpr (m_size (wr_rb w1 hB) (by omega) ?_)
        rw [if_neg (by omega)]
        exact hQ M1 w1
      · intro i M1 hi w1 kk
        refine (h_267_39_174 _ _ _ _ _).mpr (m_size (wr_rb w1 hB) (by omega) ?_)
        rw [if_pos (by omega)]
        refine m_sign (wr_rb w1 hB) (by omega) (by omega) ?_
        have le := ptW_le (B := B) (W := yW B K) (r := r) (f := 0) (n := i + 1) (m := gsz B r) (by omega)
        have el : (ptW B (yW B K) r 0 (i + 1)).length = (ptW B (yW B K) r 0 i).length + (sgW (yW B K) (gsg B r i)).length := by
          show (ptW B (yW B K) r 0 i ++ sgW (yW B K) (gsg B r (0 + i))).length = _
          rw [List.length_append, Nat.zero_add]
        refine am_s_mono (Nat.le_of_eq (show d + n + 2 = d + (n + 1) + 1 by omega)) (ih (hs i hi) (fun z => ⟨(ls hi z).2, by have := rk_lt (ls hi z).1 z; omega⟩) (wr_rb w1 hB) (wr_yR w1 hR) w1.1 (by omega) (fun M2 w2 => ?_)) (fun _ _ q => q)
        rw [w32_s (by omega)]
        refine kk M2 ?_
        have := wr_tr w1 w2
        rwa [show gsg B r i = gsg B r (0 + i) by rw [Nat.zero_add]] at this
    · refine am_s_mono (show d + n + 2 ≤ d + (n + 1) + 2 by omega) (ih hg (fun z => absurd z h8) hB hR hk hl hQ) (fun _ _ q => q)
theorem m_writes (hW : gW B) (hp : ypos B pos) (hy : ySol B pos K) {g : Nat} (hg : g < 8 ∨ (16 ≤ g ∧ g < 32)) (hK : sgO K g) (hB : rb (M 174) 0 B) (hR : yR K M) (hk : M 173 29 = (k : Int)) (hl : k + (sgW (yW B K) g).length ≤ 256) (hQ : ∀ M', wr k (sgW (yW B K) g) M M' → Q 0 M') : am_s am_P am_gg (d + 11) 267 [.inr (.inr 174), .inl (g : Int)] M Q := by
  refine am_s_mono (Nat.le_of_eq (show d + 9 + 2 = d + 11 by omega)) (m_writes1 hW hp hy 9 hg (fun z => ⟨hK z, ?_⟩) hB hR hk hl hQ) (fun _ _ q => q)
  have := rk_le (K := K) (a := g); omega
theorem m_writesPart (hW : gW B) (hp : ypos B pos) (hy : ySol B pos K) {r f n : Nat} (hr : r < B 0) (hf : f + n ≤ gsz B r) (hK : ∀ i, f ≤ i → i < f + n → sgO K (gsg B r i)) (hB : rb (M 174) 0 B) (hR : yR K M) (hk : M 173 29 = (k : Int)) (hl : k + (ptW B (yW B K) r f n).length ≤ 256) (hQ : ∀ M', wr k (ptW B (yW B K) r f n) M M' → Q 0 M') : am_s am_P am_gg (d + 12) 268 [.inr (.inr 174), .inl (r : Int), .inl (f : Int), .inl ((f + n : Nat) : Int)] M Q := by
  have hn16 := hW.1
  obtain ⟨-, hz, hz4, -, hs⟩ := hW.2.2.2.1 r hr
  refine (v_268_174 _ _ _ _ _ _).mpr ?_
  refine am_x_le [some (.inr (.inr 174)), some (.inl ((r : Int))), none, some (.inl (((f + n : Nat) : Int))), some (.inl ((f : Int)))] (am_lb_le _ _ ⟨rfl, rfl, rfl, rfl, trivial⟩) ?_
  refine p_for (S := (Nat → Int → Int)) (X := fun i M => am_x am_P am_gg (d + 11) am_k268 0 Q 3 [some (.inr (.inr 174)), some (.inl ((r : Int))), none, some (.inl (((f + n : Nat) : Int))), some (.inl (i))] [] M 0 0) (f + n) (fun i M1 => f ≤ i ∧ wr k (ptW B (yW B K) r f (i - f)) M M1) ?_ ?_ f M (by omega) ⟨Nat.le_refl _, by rw [Nat.sub_self]; exact wr_0 hk⟩
  · intro M1 ⟨_, w1⟩
    refine (h_268_3_174 _ _ _ _ _ _).mpr ?_
    rw [if_neg (by omega)]
    rw [show f + n - f = n by omega] at w1
    exact hQ M1 w1
  · intro i M1 hi ⟨hfi, w1⟩ kk
    refine (h_268_3_174 _ _ _ _ _ _).mpr ?_
    rw [if_pos (by omega)]
    refine m_sign (wr_rb w1 hB) (by omega) (by omega) ?_
    obtain ⟨j, rfl⟩ : ∃ j, i = f + j := ⟨i - f, by omega⟩
    rw [show f + j - f = j by omega] at w1
    have le := ptW_le (B := B) (W := yW B K) (r := r) (f := f) (n := j + 1) (m := n) (by omega)
    have el : (ptW B (yW B K) r f (j + 1)).length = (ptW B (yW B K) r f j).length + (sgW (yW B K) (gsg B r (f + j))).length := by
      show (ptW B (yW B K) r f j ++ sgW (yW B K) (gsg B r (f + j))).length = _
      rw [List.length_append]
    refine m_writes hW hp hy (hs _ (by omega)) (hK _ (by omega) hi) (wr_rb w1 hB) (wr_yR w1 hR) w1.1 (by omega) (fun M2 w2 => ?_)
    rw [w32_s (by omega)]
    refine kk M2 ⟨by omega, ?_⟩
    rw [show f + j + 1 - f = j + 1 by omega]
    exact wr_tr w1 w2
theorem xR_at (hx : xR B X M) {s : Nat} (hs : s < 8) (h2 : s ≠ B 2) (hN : X s ≠ NK) : M 184 (s : Int) = ((X s / 4 % 16 : Nat) : Int) ∧ M 185 (s : Int) = ((X s % 4 : Nat) : Int) := by
  obtain ⟨-, -, -, q, -⟩ := (hx s hs).resolve_left (fun z => hN z.1); exact q h2
theorem xR_st (hx : xR B X M) (h28 : B 2 < 8) (hN : X (B 2) ≠ NK) : M 184 (B 2 : Int) = -1 ∧ M 185 (B 2 : Int) = -1 := by
  obtain ⟨-, -, -, -, q⟩ := (hx _ h28).resolve_left (fun z => hN z.1); exact q rfl
theorem m_writesLeft1 (hW : gW B) (hp : ypos B pos) (hy : ySol B pos K) (hx : xSol B pos K X) : ∀ (n : Nat) {s : Nat} {M : (Nat → Int → Int)} {Q : Int → (Nat → Int → Int) → Prop} {k : Nat}, s < 8 → X s ≠ NK → rk X s < n → rb (M 174) 0 B → yR K M → xR B X M → M 173 29 = (k : Int) → k + (xL B K X s).length ≤ 256 → (∀ M', wr k (xL B K X s) M M' → Q 0 M') → am_s am_P am_gg (d + n + 12) 269 [.inr (.inr 174), .inl (s : Int)] M Q := by
  intro n
  induction n with
  | zero => intro s M Q k hs hN hrk; omega
  | succ n ih =>
    intro s M Q k hs hN hrk hB hR hxR hk hl hQ
    have h28 := hW.2.2.1
    have hn16 := hW.1
    refine (v_269_174 _ _ _ _).mpr ?_
    rw [if_pos (by omega)]
    by_cases h2 : s = B 2
    · subst h2
      rw [(xR_st hxR hs hN).1]
      rw [if_pos (by omega)]
      rw [xL_0] at hQ
      exact hQ M (wr_0 hk)
    · obtain ⟨ok, hg, -, -, lt⟩ := x_own hW hp hy hx hs h2 hN
      obtain ⟨e4, e5⟩ := xR_at hxR hs h2 hN
      rw [xL_eq hW hp hy hx hs h2 hN] at hl hQ
      rw [e4]
      generalize X s / 4 % 16 = r at *
      generalize X s % 4 = i at *
      obtain ⟨hsy, hz, hz4, -, hsg⟩ := hW.2.2.2.1 r ok.1
      have hr := ok.1
      have hi := ok.2.2.1
      rw [List.length_append] at hl
      rw [if_neg (by omega)]
      refine m_sym hB (by omega) ?_
      refine am_s_mono (Nat.le_of_eq (show d + n + 12 = d + (n + 1) + 11 by omega)) (ih hsy ok.2.2.2.2.2.1 (by have := rk_lt lt hsy; omega) hB hR hxR hk (by omega) (fun M1 w1 => ?_)) (fun _ _ q => q)
      rw [if_pos (by omega)]
      rw [show M1 185 (s : Int) = (i : Int) by rw [w1.2.2.2.1 185 (by decide) (by decide)]; exact e5]
      have := m_writesPart (d := d + n) (k := k + (xL B K X (gsy B r)).length) hW hp hy (M := M1) (Q := fun r3 M3 => Q 0 M3) (r := r) (f := 0) (n := i) hr (by omega) (fun j _ hj => fun h8 => ok.2.2.2.2.2.2.1 j (by omega) (by omega) h8) (wr_rb w1 hB) (wr_yR w1 hR) w1.1 (by omega) (fun M2 w2 => hQ M2 (wr_tr w1 w2))
      rw [Nat.zero_add] at this
      exact am_s_mono (Nat.le_of_eq (by omega)) this (fun _ _ q => q)
theorem m_writesRight1 (hW : gW B) (hp : ypos B pos) (hy : ySol B pos K) (hx : xSol B pos K X) : ∀ (n : Nat) {s : Nat} {M : (Nat → Int → Int)} {Q : Int → (Nat → Int → Int) → Prop} {k : Nat}, s < 8 → X s ≠ NK → rk X s < n → rb (M 174) 0 B → yR K M → xR B X M → M 173 29 = (k : Int) → k + (xRt B K X s).length ≤ 256 → (∀ M', wr k (xRt B K X s) M M' → Q 0 M') → am_s am_P am_gg (d + n + 12) 270 [.inr (.inr 174), .inl (s : Int)] M Q := by
  intro n
  induction n with
  | zero => intro s M Q k hs hN hrk; omega
  | succ n ih =>
    intro s M Q k hs hN hrk hB hR hxR hk hl hQ
    have h28 := hW.2.2.1
    have hn16 := hW.1
    refine (v_270_174 _ _ _ _).mpr ?_
    rw [if_pos (by omega)]
    by_cases h2 : s = B 2
    · subst h2
      rw [(xR_st hxR hs hN).1]
      rw [if_pos (by omega)]
      rw [xRt_0] at hQ
      exact hQ M (wr_0 hk)
    · obtain ⟨ok, hg, -, -, lt⟩ := x_own hW hp hy hx hs h2 hN
      obtain ⟨e4, e5⟩ := xR_at hxR hs h2 hN
      rw [xRt_eq hW hp hy hx hs h2 hN] at hl hQ
      rw [e4, e5]
      generalize X s / 4 % 16 = r at *
      generalize X s % 4 = i at *
      obtain ⟨hsy, hz, hz4, -, hsg⟩ := hW.2.2.2.1 r ok.1
      have hr := ok.1
      have hi := ok.2.2.1
      rw [List.length_append] at hl
      rw [if_neg (by omega)]
      rw [if_pos (by omega)]
      refine m_size hB (by omega) ?_
      rw [w32_s (by omega)]
      have := m_writesPart (d := d + n) (k := k) hW hp hy (M := M) (Q := fun _ M2 => am_s am_P am_gg (d + (n + 1) + 11) 231 [.inr (.inr 174), .inl (r : Int)] M2 (fun r3 M3 => am_s am_P am_gg (d + (n + 1) + 11) 270 [.inr (.inr 174), .inl r3] M3 (fun r4 M4 => Q 0 M4))) (r := r) (f := i + 1) (n := gsz B r - (i + 1)) hr (by omega) (fun j h1 hj => fun h8 => ok.2.2.2.2.2.2.1 j (by omega) (by omega) h8) hB hR hk (by omega) (fun M1 w1 => ?_)
      · rw [show i + 1 + (gsz B r - (i + 1)) = gsz B r by omega] at this
        exact am_s_mono (Nat.le_of_eq (by omega)) this (fun _ _ q => q)
      · refine m_sym (wr_rb w1 hB) (by omega) ?_
        refine am_s_mono (Nat.le_of_eq (show d + n + 12 = d + (n + 1) + 11 by omega)) (ih hsy ok.2.2.2.2.2.1 (by have := rk_lt lt hsy; omega) (wr_rb w1 hB) (wr_yR w1 hR) (wr_xR w1 hxR) w1.1 (by omega) (fun M2 w2 => ?_)) (fun _ _ q => q)
        exact hQ M2 (wr_tr w1 w2)
theorem m_writesLeft (hW : gW B) (hp : ypos B pos) (hy : ySol B pos K) (hx : xSol B pos K X) {s : Nat} (hs : s < 8) (hN : X s ≠ NK) (hB : rb (M 174) 0 B) (hR : yR K M) (hxR : xR B X M) (hk : M 173 29 = (k : Int)) (hl : k + (xL B K X s).length ≤ 256) (hQ : ∀ M', wr k (xL B K X s) M M' → Q 0 M') : am_s am_P am_gg (d + 21) 269 [.inr (.inr 174), .inl (s : Int)] M Q := by
  refine am_s_mono (Nat.le_of_eq (show d + 9 + 12 = d + 21 by omega)) (m_writesLeft1 hW hp hy hx 9 hs hN ?_ hB hR hxR hk hl hQ) (fun _ _ q => q)
  have := rk_le (K := X) (a := s); omega
theorem m_writesRight (hW : gW B) (hp : ypos B pos) (hy : ySol B pos K) (hx : xSol B pos K X) {s : Nat} (hs : s < 8) (hN : X s ≠ NK) (hB : rb (M 174) 0 B) (hR : yR K M) (hxR : xR B X M) (hk : M 173 29 = (k : Int)) (hl : k + (xRt B K X s).length ≤ 256) (hQ : ∀ M', wr k (xRt B K X s) M M' → Q 0 M') : am_s am_P am_gg (d + 21) 270 [.inr (.inr 174), .inl (s : Int)] M Q := by
  refine am_s_mono (Nat.le_of_eq (show d + 9 + 12 = d + 21 by omega)) (m_writesRight1 hW hp hy hx 9 hs hN ?_ hB hR hxR hk hl hQ) (fun _ _ q => q)
  have := rk_le (K := X) (a := s); omega
end S74
