/-! what YIELDS and CONTEXTS make, as letters -/
def sgW (W : Nat → List Nat) (g : Nat) : List Nat := if g < 8 then W g else [g - 16]
/-- what n signs of a rule make, from a place on -/
def ptW (B : Nat → Nat) (W : Nat → List Nat) (r f : Nat) : Nat → List Nat
  | 0 => []
  | n + 1 => ptW B W r f n ++ sgW W (gsg B r (f + n))
def wF (B K : Nat → Nat) : Nat → Nat → List Nat
  | 0, _ => []
  | n + 1, s => ptW B (wF B K n) (K s % 16) 0 (gsz B (K s % 16))
/-- what a symbol's YIELD makes -/
def yW (B K : Nat → Nat) (s : Nat) : List Nat := wF B K (K s + 1) s
def xlF (B K X : Nat → Nat) : Nat → Nat → List Nat
  | 0, _ => []
  | n + 1, s => if s = B 2 then [] else xlF B K X n (gsy B (X s / 4 % 16)) ++ ptW B (yW B K) (X s / 4 % 16) 0 (X s % 4)
def xrF (B K X : Nat → Nat) : Nat → Nat → List Nat
  | 0, _ => []
  | n + 1, s => if s = B 2 then [] else ptW B (yW B K) (X s / 4 % 16) (X s % 4 + 1) (gsz B (X s / 4 % 16) - (X s % 4 + 1)) ++ xrF B K X n (gsy B (X s / 4 % 16))
def xL (B K X : Nat → Nat) (s : Nat) : List Nat := xlF B K X (X s + 1) s
def xRt (B K X : Nat → Nat) (s : Nat) : List Nat := xrF B K X (X s + 1) s
section S73
variable {B K X pos : Nat → Nat} {r i f n : Nat} {W W' : Nat → List Nat}
theorem ptW_congr : ∀ {n : Nat}, (∀ j, j < n → gsg B r (f + j) < 8 → W (gsg B r (f + j)) = W' (gsg B r (f + j))) → ptW B W r f n = ptW B W' r f n
  | 0, _ => rfl
  | n + 1, h => by
    unfold ptW
    rw [ptW_congr (n := n) (fun j hj => h j (by omega))]
    congr 1
    unfold sgW
    by_cases h8 : gsg B r (f + n) < 8
    · rw [if_pos h8, if_pos h8, h n (by omega) h8]
    · rw [if_neg h8, if_neg h8]
/-- of a rule that makes a yield -/
theorem y_own (hW : gW B) (hp : ypos B pos) (h : ySol B pos K) {s : Nat} (hs : s < 8) (hN : K s ≠ NK) : yOK B K (K s % 16) ∧ gsy B (K s % 16) = s ∧ K s = ky B K (K s % 16) ∧ K s % 16 < B 0 ∧ K s / 65536 = rc B K (K s % 16) ∧ K s / 16 % 4096 = rm B K (K s % 16) := by
  obtain ⟨r, ok, hsy, hk⟩ := h.2.1 s hs hN
  obtain ⟨b16, bm⟩ := yOK_b hW hp h.1 ok
  obtain ⟨d1, d2, d3⟩ := ky_dec b16 bm
  rw [hk, d3, d1, d2]
  exact ⟨ok, hsy, rfl, ok.1, rfl, rfl⟩
theorem y_less (hW : gW B) (hp : ypos B pos) (h : ySol B pos K) {s : Nat} (hs : s < 8) (hN : K s ≠ NK) {j : Nat} (hj : j < gsz B (K s % 16)) (h8 : gsg B (K s % 16) j < 8) : K (gsg B (K s % 16) j) < K s ∧ K (gsg B (K s % 16) j) ≠ NK := by
  obtain ⟨ok, -, hk, -⟩ := y_own hW hp h hs hN
  refine ⟨?_, ok.2.2.1 j hj (by omega) h8⟩
  have := rq_comp (K := K) hj h8
  unfold ky at hk
  omega
theorem wF_fuel (hW : gW B) (hp : ypos B pos) (h : ySol B pos K) : ∀ v s n m, s < 8 → K s ≠ NK → K s < v → K s < n → K s < m → wF B K n s = wF B K m s := by
  intro v
  induction v using Nat.strongRecOn with
  | ind v ih =>
    intro s n m hs hN hv hn hm
    obtain ⟨n', rfl⟩ : ∃ n', n = n' + 1 := ⟨n - 1, by omega⟩
    obtain ⟨m', rfl⟩ : ∃ m', m = m' + 1 := ⟨m - 1, by omega⟩
    show ptW B (wF B K n') _ 0 _ = ptW B (wF B K m') _ 0 _
    refine ptW_congr (fun j hj h8 => ?_)
    rw [Nat.zero_add] at h8 ⊢
    obtain ⟨l1, l2⟩ := y_less hW hp h hs hN hj h8
    exact ih (K s) (by omega) _ _ _ h8 l2 l1 (by omega) (by omega)
theorem yW_eq (hW : gW B) (hp : ypos B pos) (h : ySol B pos K) {s : Nat} (hs : s < 8) (hN : K s ≠ NK) : yW B K s = ptW B (yW B K) (K s % 16) 0 (gsz B (K s % 16)) := by
  show ptW B (wF B K (K s)) _ 0 _ = _
  refine ptW_congr (fun j hj h8 => ?_)
  rw [Nat.zero_add] at h8 ⊢
  obtain ⟨l1, l2⟩ := y_less hW hp h hs hN hj h8
  exact wF_fuel hW hp h (K (gsg B (K s % 16) j) + 1) _ _ _ h8 l2 (by omega) (by omega) (by omega)
theorem ptW_len {c : Nat → Nat} : ∀ {n : Nat}, (∀ j, j < n → (sgW W (gsg B r (f + j))).length ≤ c j) → (ptW B W r f n).length ≤ sm c n
  | 0, _ => Nat.le_refl 0
  | n + 1, h => by
    unfold ptW sm
    rw [List.length_append]
    have := ptW_len (n := n) (fun j hj => h j (by omega))
    have := h n (by omega)
    omega
theorem yW_len (hW : gW B) (hp : ypos B pos) (h : ySol B pos K) : ∀ v s, s < 8 → K s ≠ NK → K s < v → (yW B K s).length ≤ K s / 65536 := by
  intro v
  induction v using Nat.strongRecOn with
  | ind v ih =>
    intro s hs hN hv
    obtain ⟨ok, -, -, -, hc, -⟩ := y_own hW hp h hs hN
    rw [yW_eq hW hp h hs hN, hc, rc_eq]
    have := ptW_len (B := B) (W := yW B K) (r := K s % 16) (f := 0) (c := fun j => cq K (gsg B (K s % 16) j)) (n := gsz B (K s % 16)) (fun j hj => by
      rw [Nat.zero_add]
      unfold sgW cq
      by_cases h8 : gsg B (K s % 16) j < 8
      · rw [if_pos h8, if_pos h8]
        obtain ⟨l1, l2⟩ := y_less hW hp h hs hN hj h8
        exact ih (K s) (by omega) _ h8 l2 l1
      · rw [if_neg h8, if_neg h8]; exact Nat.le_refl 1)
    omega
/-- a sign that can be made -/
def sgO (K : Nat → Nat) (g : Nat) : Prop := g < 8 → K g ≠ NK
theorem sgW_len (hW : gW B) (hp : ypos B pos) (h : ySol B pos K) {g : Nat} (hg : sgO K g) : (sgW (yW B K) g).length ≤ cq K g := by
  unfold sgW cq
  by_cases h8 : g < 8
  · rw [if_pos h8, if_pos h8]; exact yW_len hW hp h (K g + 1) g h8 (hg h8) (by omega)
  · rw [if_neg h8, if_neg h8]; exact Nat.le_refl 1
theorem sm_split (g : Nat → Nat) (a : Nat) : ∀ n, sm g (a + n) = sm g a + sm (fun j => g (a + j)) n
  | 0 => rfl
  | n + 1 => by show sm g (a + n) + g (a + n) = _; rw [sm_split g a n]; show _ = _ + (_ + g (a + n)); omega
/-- the two sides of a place -/
theorem row_len (hW : gW B) (hp : ypos B pos) (h : ySol B pos K) (hi : i < gsz B r) (ha : avb B K r i) : (ptW B (yW B K) r 0 i).length + (ptW B (yW B K) r (i + 1) (gsz B r - (i + 1))).length + gwt B r ≤ rcb B K r i := by
  have a1 := ptW_len (B := B) (W := yW B K) (r := r) (f := 0) (c := fun j => if (j : Int) = (i : Int) then 0 else cq K (gsg B r j)) (n := i) (fun j hj => by
    rw [Nat.zero_add, if_neg (by omega)]; exact sgW_len hW hp h (fun h8 => ha j (by omega) (by omega) h8))
  have a2 := ptW_len (B := B) (W := yW B K) (r := r) (f := i + 1) (c := fun j => if ((i + 1 + j : Nat) : Int) = (i : Int) then 0 else cq K (gsg B r (i + 1 + j))) (n := gsz B r - (i + 1)) (fun j hj => by
    rw [if_neg (by omega)]; exact sgW_len hW hp h (fun h8 => ha (i + 1 + j) (by omega) (by omega) h8))
  have a3 := sm_split (fun j => if (j : Int) = (i : Int) then 0 else cq K (gsg B r j)) (i + 1) (gsz B r - (i + 1))
  rw [show i + 1 + (gsz B r - (i + 1)) = gsz B r by omega] at a3
  have a4 : sm (fun j => if (j : Int) = (i : Int) then 0 else cq K (gsg B r j)) (i + 1) = sm (fun j => if (j : Int) = (i : Int) then 0 else cq K (gsg B r j)) i := by
    rw [sm_s, if_pos rfl, Nat.add_zero]
  unfold rcb
  omega
/-- of a context that is not START's -/
theorem x_own (hW : gW B) (hp : ypos B pos) (hy : ySol B pos K) (h : xSol B pos K X) {s : Nat} (hs : s < 8) (h2 : s ≠ B 2) (hN : X s ≠ NK) : xOK B K X (X s / 4 % 16) (X s % 4) ∧ gsg B (X s / 4 % 16) (X s % 4) = s ∧ X s / 262144 = xcc B K X (X s / 4 % 16) (X s % 4) ∧ X s / 64 % 4096 = xmm B K X (X s / 4 % 16) (X s % 4) ∧ X (gsy B (X s / 4 % 16)) < X s := by
  obtain ⟨r, i, ok, hg, hk⟩ := h.2.2.1 s hs h2 hN
  obtain ⟨b16, b4, bm⟩ := xOK_b hW hp hy.1 h.1 ok
  obtain ⟨d1, d2, d3, d4⟩ := xky_dec b16 b4 bm
  have up := xky_up (B := B) (K := K) (X := X) (r := r) (i := i)
  rw [hk, d3, d4, d1, d2]
  exact ⟨ok, hg, rfl, rfl, by omega⟩
theorem xlF_fuel (hW : gW B) (hp : ypos B pos) (hy : ySol B pos K) (h : xSol B pos K X) : ∀ v s n m, s < 8 → X s ≠ NK → X s < v → X s < n → X s < m → xlF B K X n s = xlF B K X m s ∧ xrF B K X n s = xrF B K X m s := by
  intro v
  induction v using Nat.strongRecOn with
  | ind v ih =>
    intro s n m hs hN hv hn hm
    obtain ⟨n', rfl⟩ : ∃ n', n = n' + 1 := ⟨n - 1, by omega⟩
    obtain ⟨m', rfl⟩ : ∃ m', m = m' + 1 := ⟨m - 1, by omega⟩
    unfold xlF xrF
    by_cases h2 : s = B 2
    · rw [if_pos h2, if_pos h2, if_pos h2, if_pos h2]; exact ⟨rfl, rfl⟩
    · rw [if_neg h2, if_neg h2, if_neg h2, if_neg h2]
      obtain ⟨ok, -, -, -, lt⟩ := x_own hW hp hy h hs h2 hN
      have := ih (X s) (by omega) _ n' m' ((hW.2.2.2.1 _ ok.1).1) ok.2.2.2.2.2.1 lt (by omega) (by omega)
      rw [this.1, this.2]; exact ⟨rfl, rfl⟩
theorem xL_0 : xL B K X (B 2) = [] := by unfold xL xlF; rw [if_pos rfl]
theorem xRt_0 : xRt B K X (B 2) = [] := by unfold xRt xrF; rw [if_pos rfl]
theorem xL_eq (hW : gW B) (hp : ypos B pos) (hy : ySol B pos K) (h : xSol B pos K X) {s : Nat} (hs : s < 8) (h2 : s ≠ B 2) (hN : X s ≠ NK) : xL B K X s = xL B K X (gsy B (X s / 4 % 16)) ++ ptW B (yW B K) (X s / 4 % 16) 0 (X s % 4) := by
  obtain ⟨ok, -, -, -, lt⟩ := x_own hW hp hy h hs h2 hN
  show (if s = B 2 then [] else xlF B K X (X s) _ ++ _) = _
  rw [if_neg h2]
  congr 1
  exact (xlF_fuel hW hp hy h (X (gsy B (X s / 4 % 16)) + 1) _ _ _ ((hW.2.2.2.1 _ ok.1).1) ok.2.2.2.2.2.1 (by omega) (by omega) (by omega)).1
theorem xRt_eq (hW : gW B) (hp : ypos B pos) (hy : ySol B pos K) (h : xSol B pos K X) {s : Nat} (hs : s < 8) (h2 : s ≠ B 2) (hN : X s ≠ NK) : xRt B K X s = ptW B (yW B K) (X s / 4 % 16) (X s % 4 + 1) (gsz B (X s / 4 % 16) - (X s % 4 + 1)) ++ xRt B K X (gsy B (X s / 4 % 16)) := by
  obtain ⟨ok, -, -, -, lt⟩ := x_own hW hp hy h hs h2 hN
  show (if s = B 2 then [] else _ ++ xrF B K X (X s) _) = _
  rw [if_neg h2]
  congr 1
  exact (xlF_fuel hW hp hy h (X (gsy B (X s / 4 % 16)) + 1) _ _ _ ((hW.2.2.2.1 _ ok.1).1) ok.2.2.2.2.2.1 (by omega) (by omega) (by omega)).2
theorem xLR_len (hW : gW B) (hp : ypos B pos) (hy : ySol B pos K) (h : xSol B pos K X) : ∀ v s, s < 8 → X s ≠ NK → X s < v → (xL B K X s).length + (xRt B K X s).length ≤ X s / 262144 := by
  intro v
  induction v using Nat.strongRecOn with
  | ind v ih =>
    intro s hs hN hv
    by_cases h2 : s = B 2
    · rw [h2, xL_0, xRt_0]; exact Nat.zero_le _
    · obtain ⟨ok, -, hc, -, lt⟩ := x_own hW hp hy h hs h2 hN
      have i1 := ih (X s) (by omega) _ ((hW.2.2.2.1 _ ok.1).1) ok.2.2.2.2.2.1 lt
      have i2 := row_len hW hp hy ok.2.2.1 ok.2.2.2.2.2.2.1
      rw [xL_eq hW hp hy h hs h2 hN, xRt_eq hW hp hy h hs h2 hN, hc, List.length_append, List.length_append]
      unfold xcc
      omega
end S73
