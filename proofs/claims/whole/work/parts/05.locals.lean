/-! locals -/
theorem am_cat_cv (ad : List Nat) (v : am_v) : (am_cv ad v).category = am_cat v := by
  rcases v with x | x | r
  · rfl
  · rfl
  · show (va_rf (am_rv ad r)).category = 1
    cases am_rv ad r <;> rfl
theorem am_sto_len (o : Option am_v) : ∀ (ls : am_l) (i : Nat), (am_sto o ls i).length = ls.length
  | [], _ => by simp [am_sto]
  | _ :: l, 0 => by simp [am_sto]
  | _ :: l, 1 => by simp [am_sto, am_sto_len o l 0]
  | _ :: l, k + 2 => by simp [am_sto, am_sto_len o l (k + 1)]
theorem am_sto_ld (o : Option am_v) : ∀ (ls : am_l) (i k : Nat) (w : am_v), am_ld (am_sto o ls i) k = some w → (k = i ∧ o = some w) ∨ (k ≠ i ∧ am_ld ls k = some w ∧ ¬ (k + 1 = i ∧ am_cat w = 2))
  | [], i, k, w, h => by simp [am_sto, am_ld] at h
  | a :: l, 0, 0, w, h => by simp [am_sto, am_ld] at h; exact Or.inl ⟨rfl, h⟩
  | a :: l, 0, k + 1, w, h => by
    simp only [am_sto, am_ld] at h
    exact Or.inr ⟨by omega, h, by omega⟩
  | a :: l, 1, 0, w, h => by
    simp only [am_sto, am_ld] at h
    refine Or.inr ⟨by omega, ?_, ?_⟩
    · rcases a with _ | x | x | x
      · cases h
      · exact h
      · cases h
      · exact h
    · rintro ⟨-, hc⟩
      rcases a with _ | x | x | x
      · cases h
      · cases h; cases hc
      · cases h
      · cases h; cases hc
  | a :: l, 1, k + 1, w, h => by
    simp only [am_sto, am_ld] at h
    rcases am_sto_ld o l 0 k w h with ⟨h1, h2⟩ | ⟨h1, h2, h3⟩
    · exact Or.inl ⟨by omega, h2⟩
    · exact Or.inr ⟨by omega, h2, by omega⟩
  | a :: l, i + 2, 0, w, h => by
    simp only [am_sto, am_ld] at h
    exact Or.inr ⟨by omega, h, by omega⟩
  | a :: l, i + 2, k + 1, w, h => by
    simp only [am_sto, am_ld] at h
    rcases am_sto_ld o l (i + 1) k w h with ⟨h1, h2⟩ | ⟨h1, h2, h3⟩
    · exact Or.inl ⟨by omega, h2⟩
    · exact Or.inr ⟨by omega, h2, fun q => h3 ⟨by omega, q.2⟩⟩
theorem am_ld_lt : ∀ (ls : am_l) (k : Nat) (v : am_v), am_ld ls k = some v → k < ls.length
  | [], _, _, h => by simp [am_ld] at h
  | a :: l, 0, v, h => by simp
  | a :: l, k + 1, v, h => by
    have := am_ld_lt l k v (by simpa [am_ld] using h)
    simp; omega
/-- the locals as the small machine has them -/
def am_LR (ad : List Nat) (n : Nat) (cls : Array Slot) (nL : Nat) (ls : am_l) : Prop := ls.length = nL ∧ lv_has cls nL [] ∧ ∀ k v, am_ld ls k = some v → cls[k]? = some (.val (am_cv ad v)) ∧ am_ok n v
/-- the same as a list -/
def am_ll (ad : List Nat) (ls : am_l) : List (Nat × Value) := (List.range ls.length).filterMap fun k => (am_ld ls k).map fun v => (k, am_cv ad v)
theorem am_ll_mem {ad : List Nat} {ls : am_l} {k : Nat} {v : am_v} (h : am_ld ls k = some v) : (k, am_cv ad v) ∈ am_ll ad ls := by
  unfold am_ll
  rw [List.mem_filterMap]
  exact ⟨k, List.mem_range.mpr (am_ld_lt ls k v h), by rw [h]; rfl⟩
theorem am_LR.has {ad : List Nat} {n nL : Nat} {cls : Array Slot} {ls : am_l} (h : am_LR ad n cls nL ls) : lv_has cls nL (am_ll ad ls) := by
  obtain ⟨h1, h2, h3⟩ := h
  refine ⟨h2.1, h2.2.1, fun q hq => ?_⟩
  unfold am_ll at hq
  obtain ⟨k, -, hk⟩ := List.mem_filterMap.mp hq
  cases e : am_ld ls k with
  | none => rw [e] at hk; cases hk
  | some v => rw [e] at hk; cases hk; exact (h3 k v e).1
theorem am_LR.sto1 {ad : List Nat} {n nL i : Nat} {cls cls' : Array Slot} {ls : am_l} {v : am_v} (h : am_LR ad n cls nL ls) (hv : am_ok n v) {lv' : List (Nat × Value)} (hl : (i, am_cv ad v) :: (am_ll ad ls).filter (fun q => !(q.1 == i) && !(q.1 + 1 == i && q.2.category == 2)) = lv') (h' : lv_has cls' nL lv') : am_LR ad n cls' nL (am_sto (some v) ls i) := by
  subst hl
  refine ⟨by rw [am_sto_len]; exact h.1, ⟨h'.1, h'.2.1, fun q hq => by cases hq⟩, fun k w hw => ?_⟩
  rcases am_sto_ld (some v) ls i k w hw with ⟨rfl, e⟩ | ⟨h1, h2, h3⟩
  · cases e
    exact ⟨h'.2.2 (k, am_cv ad v) List.mem_cons_self, hv⟩
  · refine ⟨h'.2.2 (k, am_cv ad w) (List.mem_cons_of_mem _ (List.mem_filter.mpr ⟨am_ll_mem h2, ?_⟩)), (h.2.2 k w h2).2⟩
    have c1 : (k == i) = false := by simp [h1]
    show (!(k == i) && !(k + 1 == i && (am_cv ad w).category == 2)) = true
    rw [c1, am_cat_cv]
    by_cases c2 : k + 1 = i
    · have c3 : ¬ am_cat w = 2 := fun z => h3 ⟨c2, z⟩
      simp [c3]
    · simp [c2]
theorem am_LR.sto2 {ad : List Nat} {n nL i : Nat} {cls cls' : Array Slot} {ls : am_l} {v : am_v} (h : am_LR ad n cls nL ls) (hv : am_ok n v) {lv' : List (Nat × Value)} (hl : (i, am_cv ad v) :: (am_ll ad ls).filter (fun q => !(q.1 == i) && (!(q.1 == i + 1) && !(q.1 + 1 == i && q.2.category == 2))) = lv') (h' : lv_has cls' nL lv') : am_LR ad n cls' nL (am_sto (some v) (am_sto none ls (i + 1)) i) := by
  subst hl
  refine ⟨by rw [am_sto_len, am_sto_len]; exact h.1, ⟨h'.1, h'.2.1, fun q hq => by cases hq⟩, fun k w hw => ?_⟩
  rcases am_sto_ld (some v) _ i k w hw with ⟨rfl, e⟩ | ⟨h1, h2, h3⟩
  · cases e
    exact ⟨h'.2.2 (k, am_cv ad v) List.mem_cons_self, hv⟩
  · rcases am_sto_ld none ls (i + 1) k w h2 with ⟨-, e⟩ | ⟨h4, h5, h6⟩
    · cases e
    · refine ⟨h'.2.2 (k, am_cv ad w) (List.mem_cons_of_mem _ (List.mem_filter.mpr ⟨am_ll_mem h5, ?_⟩)), (h.2.2 k w h5).2⟩
      have c1 : (k == i) = false := by simp [h1]
      have c4 : (k == i + 1) = false := by simp [h4]
      show (!(k == i) && (!(k == i + 1) && !(k + 1 == i && (am_cv ad w).category == 2))) = true
      rw [c1, c4, am_cat_cv]
      by_cases c2 : k + 1 = i
      · have c3 : ¬ am_cat w = 2 := fun z => h3 ⟨c2, z⟩
        simp [c3]
      · simp [c2]
theorem am_ok_le {n n' : Nat} (h : n ≤ n') {v : am_v} (hv : am_ok n v) : am_ok n' v := by
  rcases v with x | x | r
  · exact hv
  · exact hv
  · exact Nat.le_trans hv h
theorem am_LR.app {ad t : List Nat} {n n' nL : Nat} {cls : Array Slot} {ls : am_l} (h : am_LR ad n cls nL ls) (hl : ad.length = n) (hn : n ≤ n') : am_LR (ad ++ t) n' cls nL ls :=
  ⟨h.1, h.2.1, fun k v hv => ⟨by rw [am_cv_app (by rw [hl]; exact (h.2.2 k v hv).2)]; exact (h.2.2 k v hv).1, am_ok_le hn (h.2.2 k v hv).2⟩⟩
theorem am_st_app {ad t : List Nat} {n : Nat} (hl : ad.length = n) : ∀ (st : List am_v), (∀ v ∈ st, am_ok n v) → st.map (am_cv (ad ++ t)) = st.map (am_cv ad)
  | [], _ => rfl
  | v :: st, h => by
    simp only [List.map_cons]
    rw [am_cv_app (by rw [hl]; exact h v List.mem_cons_self), am_st_app hl st (fun w hw => h w (List.mem_cons_of_mem _ hw))]
/-! the locals with which a method begins -/
def am_sz : List am_v → Nat
  | [] => 0
  | v :: l => am_cat v + am_sz l
theorem am_loc_len : ∀ (args : List am_v) (mL : Nat), am_sz args ≤ mL → (am_loc args mL).length = mL
  | [], mL, _ => by simp [am_loc]
  | .inl x :: l, mL, h => by
    have h' : 1 + am_sz l ≤ mL := h
    have := am_loc_len l (mL - 1) (by omega)
    simp [am_loc, this]; omega
  | .inr (.inr x) :: l, mL, h => by
    have h' : 1 + am_sz l ≤ mL := h
    have := am_loc_len l (mL - 1) (by omega)
    simp [am_loc, this]; omega
  | .inr (.inl x) :: l, mL, h => by
    have h' : 2 + am_sz l ≤ mL := h
    have := am_loc_len l (mL - 2) (by omega)
    simp [am_loc, this]; omega
theorem am_ld_rep (m k : Nat) (v : am_v) : am_ld (List.replicate m none) k = some v → False := by
  induction m generalizing k with
  | zero => intro h; simp [am_ld] at h
  | succ m ih =>
    intro h
    rw [List.replicate_succ] at h
    cases k with
    | zero => simp [am_ld] at h
    | succ k => exact ih k (by simpa [am_ld] using h)
theorem am_loc_ld (ad : List Nat) : ∀ (args : List am_v) (mL j k : Nat) (w : am_v), am_ld (am_loc args mL) k = some w → (j + k, am_cv ad w) ∈ lv_args j (args.map (am_cv ad)) ∧ w ∈ args
  | [], mL, j, k, w, h => (am_ld_rep mL k w (by simpa [am_loc] using h)).elim
  | .inl x :: l, mL, j, 0, w, h => by
    simp [am_loc, am_ld] at h; subst h
    exact ⟨by simp [lv_args], List.mem_cons_self⟩
  | .inl x :: l, mL, j, k + 1, w, h => by
    obtain ⟨h1, h2⟩ := am_loc_ld ad l (mL - 1) (j + 1) k w (by simpa [am_loc, am_ld] using h)
    refine ⟨?_, List.mem_cons_of_mem _ h2⟩
    rw [List.map_cons, lv_args, am_cat_cv]
    refine List.mem_cons_of_mem _ ?_
    rw [show j + (k + 1) = j + 1 + k by omega]
    exact h1
  | .inr (.inr x) :: l, mL, j, 0, w, h => by
    simp [am_loc, am_ld] at h; subst h
    exact ⟨by simp [lv_args], List.mem_cons_self⟩
  | .inr (.inr x) :: l, mL, j, k + 1, w, h => by
    obtain ⟨h1, h2⟩ := am_loc_ld ad l (mL - 1) (j + 1) k w (by simpa [am_loc, am_ld] using h)
    refine ⟨?_, List.mem_cons_of_mem _ h2⟩
    rw [List.map_cons, lv_args, am_cat_cv]
    refine List.mem_cons_of_mem _ ?_
    rw [show j + (k + 1) = j + 1 + k by omega]
    exact h1
  | .inr (.inl x) :: l, mL, j, 0, w, h => by
    simp [am_loc, am_ld] at h; subst h
    exact ⟨by simp [lv_args], List.mem_cons_self⟩
  | .inr (.inl x) :: l, mL, j, 1, w, h => by simp [am_loc, am_ld] at h
  | .inr (.inl x) :: l, mL, j, k + 2, w, h => by
    obtain ⟨h1, h2⟩ := am_loc_ld ad l (mL - 2) (j + 2) k w (by simpa [am_loc, am_ld] using h)
    refine ⟨?_, List.mem_cons_of_mem _ h2⟩
    rw [List.map_cons, lv_args, am_cat_cv]
    refine List.mem_cons_of_mem _ ?_
    rw [show j + (k + 2) = j + 2 + k by omega]
    exact h1
theorem am_sl_len (ad : List Nat) : ∀ (args : List am_v), (lg_sl (args.map (am_cv ad))).length = am_sz args
  | [] => rfl
  | v :: l => by
    have := am_sl_len ad l
    simp only [lg_sl, List.map_cons, List.flatMap_cons, List.length_append] at this ⊢
    rw [this, am_cat_cv]
    show _ = am_cat v + am_sz l
    rcases v with x | x | x <;> simp [am_cat]
theorem am_LR.entry {ad : List Nat} {n mL : Nat} {args : List am_v} (hs : am_sz args ≤ mL) (ho : ∀ v ∈ args, am_ok n v) : am_LR ad n ((lg_sl (args.map (am_cv ad)) ++ List.replicate (mL - (lg_sl (args.map (am_cv ad))).length) Slot.unset).toArray) mL (am_loc args mL) := by
  have hl := lv_entry (args.map (am_cv ad)) (n := mL) (by rw [am_sl_len]; exact hs)
  refine ⟨am_loc_len args mL hs, ⟨hl.1, hl.2.1, fun q hq => by cases hq⟩, fun k v hv => ?_⟩
  obtain ⟨h1, h2⟩ := am_loc_ld ad args mL 0 k v hv
  rw [Nat.zero_add] at h1
  exact ⟨hl.2.2 _ h1, ho v h2⟩
