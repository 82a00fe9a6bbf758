/-! the small machine's heap as a world of the kit -/
def am_rv (ad : List Nat) (r : Nat) : Option Nat := match r with
  | 0 => none
  | k + 1 => ad[k]?
def am_cv (ad : List Nat) : am_v → Value
  | .inl x => .int (Int32.ofInt x)
  | .inr (.inl x) => .long (Int64.ofInt x)
  | .inr (.inr r) => va_rf (am_rv ad r)
def am_ok (n : Nat) : am_v → Prop
  | .inl x => am_i32 x
  | .inr (.inl x) => am_i64 x
  | .inr (.inr r) => r ≤ n
def am_fv (ad : List Nat) (t : Nat) (x : Int) (r : Nat) : Value := match t with
  | 1 => .long (Int64.ofInt x)
  | 2 => va_rf (am_rv ad r)
  | _ => .int (Int32.ofInt x)
def am_fs (ad : List Nat) (f : Int → Int) (rf : Int → Nat) : List Nat → Nat → List Value
  | [], _ => []
  | t :: ts, k => am_fv ad t (f (k : Int)) (rf (k : Int)) :: am_fs ad f rf ts (k + 1)
def am_el (ft : Nat → List Nat) (cs : Nat → ClassId) (ad : List Nat) (s : Nat × Nat) (f : Int → Int) (rf : Int → Nat) : va_E := match s.1 with
  | 0 => .inl (cs 0, s.2, .inl fun j => Int32.ofInt (f (j : Int)))
  | 1 => .inl (cs 1, s.2, .inr (.inl fun j => Int64.ofInt (f (j : Int))))
  | 2 => .inl (cs 2, s.2, .inl fun j => Int32.ofInt (f (j : Int)))
  | 3 => .inl (cs 3, s.2, .inr (.inr (.inr (.inr fun j => am_rv ad (rf (j : Int))))))
  | 4 => .inl (cs 4, s.2, .inr (.inr (.inr (.inr fun j => am_rv ad (rf (j : Int))))))
  | ci + 5 => .inr (ci, am_fs ad f rf (ft ci) 0)
def am_ty (ft : Nat → List Nat) (s : Nat × Nat) (i : Int) : Nat := match s.1 with
  | 0 => 0
  | 1 => 1
  | 2 => 4
  | 3 => 2
  | 4 => 2
  | ci + 5 => (ft ci).getD i.toNat 2
def am_tok (n t : Nat) (x : Int) (r : Nat) : Prop := match t with
  | 0 => am_i32 x
  | 1 => am_i64 x
  | 2 => r ≤ n
  | 3 => x = 0 ∨ x = 1
  | _ => -128 ≤ x ∧ x < 128
def am_wl (ft : Nat → List Nat) (cs : Nat → ClassId) (ad : List Nat) (h : am_h) : va_W := (List.range h.1.1).map fun k => (ad.getD k 0, am_el ft cs ad (h.1.2.1 k) (h.2 k) (h.1.2.2 k))
def am_cM (ft : Nat → List Nat) (h : am_h) : Prop := ∀ k, k < h.1.1 → ∀ i : Int, 0 ≤ i → am_tok h.1.1 (am_ty ft (h.1.2.1 k) i) (h.2 k i) (h.1.2.2 k i)
def am_RP (D : va_G) (cl : List vw_C) (ft : Nat → List Nat) (cs : Nat → ClassId) (A : Nat → Prop) (ad : List Nat) (h : am_h) (H : Heap) : Prop := ad.length = h.1.1 ∧ va_P D cl (am_wl ft cs ad h) H ∧ va_D A (am_wl ft cs ad h) ∧ am_cM ft h
theorem am_beq_f {a b : Nat} (h : a ≠ b) : Nat.beq a b = false := by
  cases e : Nat.beq a b with
  | false => rfl
  | true => exact absurd (Nat.eq_of_beq_eq_true e) h
theorem am_beq_t (a : Nat) : Nat.beq a a = true := Nat.beq_refl a
theorem am_rv_at {ad : List Nat} {k : Nat} (h : k < ad.length) : am_rv ad (k + 1) = some (ad.getD k 0) := by
  show ad[k]? = _
  rw [List.getElem?_eq_getElem h, List.getD_eq_getElem?_getD, List.getElem?_eq_getElem h]; rfl
theorem am_fs_get (ad : List Nat) (f : Int → Int) (rf : Int → Nat) : ∀ (ts : List Nat) (j k t : Nat), ts[k]? = some t → (am_fs ad f rf ts j)[k]? = some (am_fv ad t (f ((j + k : Nat) : Int)) (rf ((j + k : Nat) : Int)))
  | [], j, k, t, h => by simp at h
  | a :: ts, j, 0, t, h => by
    simp at h; subst h; rfl
  | a :: ts, j, k + 1, t, h => by
    have := am_fs_get ad f rf ts (j + 1) k t (by simpa using h)
    rw [show j + (k + 1) = j + 1 + k by omega]
    simpa [am_fs] using this
theorem am_fs_len (ad : List Nat) (f : Int → Int) (rf : Int → Nat) : ∀ (ts : List Nat) (j : Nat), (am_fs ad f rf ts j).length = ts.length
  | [], _ => rfl
  | _ :: ts, j => by simp [am_fs, am_fs_len ad f rf ts (j + 1)]
theorem am_fs_eq (ad ad' : List Nat) (f f' : Int → Int) (rf rf' : Int → Nat) : ∀ (ts : List Nat) (j : Nat), (∀ k t, ts[k]? = some t → am_fv ad t (f ((j + k : Nat) : Int)) (rf ((j + k : Nat) : Int)) = am_fv ad' t (f' ((j + k : Nat) : Int)) (rf' ((j + k : Nat) : Int))) → am_fs ad f rf ts j = am_fs ad' f' rf' ts j
  | [], _, _ => rfl
  | a :: ts, j, h => by
    simp only [am_fs]
    have h0 := h 0 a rfl
    have h1 := am_fs_eq ad ad' f f' rf rf' ts (j + 1) (fun k t ht => by
      have := h (k + 1) t (by simpa using ht)
      rw [show j + (k + 1) = j + 1 + k by omega] at this
      exact this)
    rw [h1]
    congr 1
theorem am_fs_set (ad : List Nat) (f f' : Int → Int) (rf rf' : Int → Nat) (ts : List Nat) (k t : Nat) (ht : ts[k]? = some t) (v : Value) (hv : am_fv ad t (f' (k : Int)) (rf' (k : Int)) = v) (ho : ∀ j : Nat, j ≠ k → f' (j : Int) = f (j : Int) ∧ rf' (j : Int) = rf (j : Int)) : (am_fs ad f rf ts 0).set k v = am_fs ad f' rf' ts 0 := by
  apply List.ext_getElem?
  intro j
  by_cases hj : j = k
  · subst hj
    have hl : j < (am_fs ad f rf ts 0).length := by rw [am_fs_len]; exact (List.getElem?_eq_some_iff.mp ht).1
    rw [List.getElem?_set_self hl, am_fs_get ad f' rf' ts 0 j t ht]
    simp [← hv]
  · rw [List.getElem?_set_ne (Ne.symm hj)]
    cases e : ts[j]? with
    | none =>
      have hl : ts.length ≤ j := by simpa using e
      rw [List.getElem?_eq_none (by rw [am_fs_len]; exact hl), List.getElem?_eq_none (by rw [am_fs_len]; exact hl)]
    | some u =>
      rw [am_fs_get ad f rf ts 0 j u e, am_fs_get ad f' rf' ts 0 j u e]
      have := ho j hj
      simp [this.1, this.2]
theorem am_wl_len (ft : Nat → List Nat) (cs : Nat → ClassId) (ad : List Nat) (h : am_h) : (am_wl ft cs ad h).length = h.1.1 := by simp [am_wl]
theorem am_wl_get {ft : Nat → List Nat} {cs : Nat → ClassId} {ad : List Nat} {h : am_h} {k : Nat} (hk : k < h.1.1) : (am_wl ft cs ad h)[k]? = some (ad.getD k 0, am_el ft cs ad (h.1.2.1 k) (h.2 k) (h.1.2.2 k)) := by
  simp [am_wl, hk]
theorem am_wl_set {ft : Nat → List Nat} {cs : Nat → ClassId} {ad : List Nat} {h h' : am_h} {k : Nat} (hn : h'.1.1 = h.1.1) {e : va_E} (he : am_el ft cs ad (h'.1.2.1 k) (h'.2 k) (h'.1.2.2 k) = e) (ho : ∀ j, j ≠ k → h'.1.2.1 j = h.1.2.1 j ∧ h'.2 j = h.2 j ∧ h'.1.2.2 j = h.1.2.2 j) (hk : k < h.1.1) :
    (am_wl ft cs ad h).set k (ad.getD k 0, e) = am_wl ft cs ad h' := by
  apply List.ext_getElem?
  intro j
  by_cases hj : j = k
  · subst hj
    rw [List.getElem?_set_self (by rw [am_wl_len]; exact hk), am_wl_get (by rw [hn]; exact hk), he]
  · rw [List.getElem?_set_ne (Ne.symm hj)]
    by_cases hl : j < h.1.1
    · rw [am_wl_get hl, am_wl_get (by rw [hn]; exact hl)]
      obtain ⟨e1, e2, e3⟩ := ho j hj
      rw [e1, e2, e3]
    · rw [List.getElem?_eq_none (by rw [am_wl_len]; omega), List.getElem?_eq_none (by rw [am_wl_len]; omega)]
theorem am_rv_app {ad : List Nat} {t : List Nat} {r : Nat} (h : r ≤ ad.length) : am_rv (ad ++ t) r = am_rv ad r := by
  cases r with
  | zero => rfl
  | succ k => exact List.getElem?_append_left (by omega)
theorem am_cv_app {ad t : List Nat} {v : am_v} (h : am_ok ad.length v) : am_cv (ad ++ t) v = am_cv ad v := by
  rcases v with x | x | r
  · rfl
  · rfl
  · show va_rf _ = va_rf _
    rw [am_rv_app h]
theorem am_el_app {ft : Nat → List Nat} {cs : Nat → ClassId} {ad t : List Nat} {s : Nat × Nat} {f : Int → Int} {rf : Int → Nat} (hh : ∀ i : Int, 0 ≤ i → am_tok ad.length (am_ty ft s i) (f i) (rf i)) : am_el ft cs (ad ++ t) s f rf = am_el ft cs ad s f rf := by
  obtain ⟨q, n⟩ := s
  match q with
  | 0 => rfl
  | 1 => rfl
  | 2 => rfl
  | 3 =>
    have e : (fun j : Nat => am_rv (ad ++ t) (rf (j : Int))) = fun j : Nat => am_rv ad (rf (j : Int)) := by
      funext j
      have q : rf (j : Int) ≤ ad.length := hh (j : Int) (by omega)
      exact am_rv_app q
    show Sum.inl (cs 3, n, Sum.inr (Sum.inr (Sum.inr (Sum.inr fun j : Nat => am_rv (ad ++ t) (rf (j : Int)))))) = _
    rw [e]; rfl
  | 4 =>
    have e : (fun j : Nat => am_rv (ad ++ t) (rf (j : Int))) = fun j : Nat => am_rv ad (rf (j : Int)) := by
      funext j
      have q : rf (j : Int) ≤ ad.length := hh (j : Int) (by omega)
      exact am_rv_app q
    show Sum.inl (cs 4, n, Sum.inr (Sum.inr (Sum.inr (Sum.inr fun j : Nat => am_rv (ad ++ t) (rf (j : Int)))))) = _
    rw [e]; rfl
  | ci + 5 =>
    show Sum.inr (ci, am_fs (ad ++ t) f rf (ft ci) 0) = Sum.inr (ci, am_fs ad f rf (ft ci) 0)
    rw [am_fs_eq (ad ++ t) ad f f rf rf (ft ci) 0 (fun k u hu => ?_)]
    have q := hh ((k : Nat) : Int) (by omega)
    have e1 : am_ty ft (ci + 5, n) (k : Int) = u := by
      show (ft ci).getD ((k : Int)).toNat 2 = u
      rw [Int.toNat_natCast, List.getD_eq_getElem?_getD, hu]; rfl
    rw [e1] at q
    simp only [Nat.zero_add]
    match u, q with
    | 0, _ => rfl
    | 1, _ => rfl
    | 2, q => show va_rf _ = va_rf _; rw [am_rv_app q]
    | u + 3, _ => rfl
theorem am_wl_new {ft : Nat → List Nat} {cs : Nat → ClassId} {ad : List Nat} {h : am_h} {s : Nat × Nat} {q : Nat} (hl : ad.length = h.1.1) (hc : am_cM ft h) : am_wl ft cs (ad ++ [q]) (am_new h s) = am_wl ft cs ad h ++ [(q, am_el ft cs ad s (fun _ => 0) (fun _ => 0))] := by
  apply List.ext_getElem?
  intro j
  have hn : (am_new h s).1.1 = h.1.1 + 1 := rfl
  by_cases hj : j < h.1.1
  · rw [am_wl_get (by rw [hn]; omega), List.getElem?_append_left (by rw [am_wl_len]; exact hj), am_wl_get hj]
    have b : Nat.beq j h.1.1 = false := am_beq_f (by omega)
    have e1 : (am_new h s).1.2.1 j = h.1.2.1 j := by show (bif Nat.beq j h.1.1 then _ else _) = _; rw [b]; rfl
    have e2 : (am_new h s).2 j = h.2 j := by show (bif Nat.beq j h.1.1 then _ else _) = _; rw [b]; rfl
    have e3 : (am_new h s).1.2.2 j = h.1.2.2 j := by show (bif Nat.beq j h.1.1 then _ else _) = _; rw [b]; rfl
    rw [e1, e2, e3, am_el_app (fun i hi => by rw [hl]; exact hc j hj i hi)]
    congr 2
    rw [List.getD_eq_getElem?_getD, List.getElem?_append_left (by omega), List.getD_eq_getElem?_getD]
  · by_cases hj2 : j = h.1.1
    · subst hj2
      rw [am_wl_get (by rw [hn]; omega), List.getElem?_append_right (by rw [am_wl_len]; omega), am_wl_len, Nat.sub_self]
      have b : Nat.beq h.1.1 h.1.1 = true := Nat.beq_refl _
      have e1 : (am_new h s).1.2.1 h.1.1 = s := by show (bif Nat.beq h.1.1 h.1.1 then _ else _) = _; rw [b]; rfl
      have e2 : (am_new h s).2 h.1.1 = fun _ => 0 := by show (bif Nat.beq h.1.1 h.1.1 then _ else _) = _; rw [b]; rfl
      have e3 : (am_new h s).1.2.2 h.1.1 = fun _ => 0 := by show (bif Nat.beq h.1.1 h.1.1 then _ else _) = _; rw [b]; rfl
      have e4 : (ad ++ [q]).getD h.1.1 0 = q := by rw [List.getD_eq_getElem?_getD, List.getElem?_append_right (by omega), hl, Nat.sub_self]; rfl
      rw [e1, e2, e3, e4]
      have e5 : am_el ft cs (ad ++ [q]) s (fun _ => 0) (fun _ => 0) = am_el ft cs ad s (fun _ => 0) (fun _ => 0) := am_el_app (fun i _ => by
        have : ∀ t, am_tok ad.length t 0 0 := fun t => match t with
          | 0 => am_0
          | 1 => by show am_i64 0; unfold am_i64; omega
          | 2 => Nat.zero_le _
          | 3 => Or.inl rfl
          | _ + 4 => by show -128 ≤ (0 : Int) ∧ (0 : Int) < 128; omega
        exact this _)
      rw [e5]; rfl
    · rw [List.getElem?_eq_none (by rw [am_wl_len, hn]; omega), List.getElem?_eq_none (by rw [List.length_append, am_wl_len]; simp; omega)]
