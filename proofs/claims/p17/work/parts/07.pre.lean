/-! ===== lists of the small machine ===== -/
theorem m_sto1_get : ∀ (lo : List (Option Value)) (i : Nat) (v : Value) (j : Nat) (u : Value), (m_sto1 lo i v)[j]? = some (some u) → (j = i ∧ u = v) ∨ (j ≠ i ∧ lo[j]? = some (some u) ∧ ¬ (j + 1 = i ∧ m_c2 u = true))
  | [], i, v, j, u, h => by simp [m_sto1] at h
  | x :: r, 0, v, 0, u, h => by
    simp [m_sto1] at h
    exact Or.inl ⟨rfl, h.symm⟩
  | x :: r, 0, v, j + 1, u, h => by
    simp [m_sto1] at h
    exact Or.inr ⟨by omega, by simpa using h, by omega⟩
  | x :: r, 1, v, 0, u, h => by
    refine Or.inr ⟨by omega, ?_, ?_⟩
    · simp only [m_sto1, List.getElem?_cons_zero, Option.some.injEq] at h
      cases x with
      | none => simp at h
      | some y =>
        simp only at h
        split at h
        · cases h
        · simpa using h
    · rintro ⟨-, hc⟩
      simp only [m_sto1, List.getElem?_cons_zero, Option.some.injEq] at h
      cases x with
      | none => simp at h
      | some y =>
        simp only at h
        split at h
        · cases h
        · rename_i hf
          cases h
          rw [hf] at hc
          cases hc
  | x :: r, 1, v, j + 1, u, h => by
    simp only [m_sto1, List.getElem?_cons_succ] at h
    rcases m_sto1_get r 0 v j u h with ⟨h1, h2⟩ | ⟨h1, h2, h3⟩
    · exact Or.inl ⟨by omega, h2⟩
    · exact Or.inr ⟨by omega, by simpa using h2, by omega⟩
  | x :: r, i + 2, v, 0, u, h => by
    simp only [m_sto1, List.getElem?_cons_zero] at h
    exact Or.inr ⟨by omega, by simpa using h, by omega⟩
  | x :: r, i + 2, v, j + 1, u, h => by
    simp only [m_sto1, List.getElem?_cons_succ] at h
    rcases m_sto1_get r (i + 1) v j u h with ⟨h1, h2⟩ | ⟨h1, h2, h3⟩
    · exact Or.inl ⟨by omega, h2⟩
    · exact Or.inr ⟨by omega, by simpa using h2, fun ⟨q1, q2⟩ => h3 ⟨by omega, q2⟩⟩
theorem m_sto1_len : ∀ (lo : List (Option Value)) (i : Nat) (v : Value), (m_sto1 lo i v).length = lo.length
  | [], i, v => by simp [m_sto1]
  | x :: r, 0, v => by simp [m_sto1]
  | x :: r, 1, v => by simp [m_sto1, m_sto1_len r 0 v]
  | x :: r, i + 2, v => by simp [m_sto1, m_sto1_len r (i + 1) v]
theorem m_sto2_c1 (x : Option Value) (r : List (Option Value)) (v : Value) : m_sto2 (x :: r) 1 v = (match x with | some u => (match m_c2 u with | true => none | false => some u) | none => none) :: m_sto2 r 0 v := by cases r <;> rfl
theorem m_sto2_c2 (x : Option Value) (r : List (Option Value)) (i : Nat) (v : Value) : m_sto2 (x :: r) (i + 2) v = x :: m_sto2 r (i + 1) v := by cases r <;> rfl
theorem m_sto2_get : ∀ (lo : List (Option Value)) (i : Nat) (v : Value) (j : Nat) (u : Value), (m_sto2 lo i v)[j]? = some (some u) → (j = i ∧ u = v) ∨ (j ≠ i ∧ j ≠ i + 1 ∧ lo[j]? = some (some u) ∧ ¬ (j + 1 = i ∧ m_c2 u = true))
  | [], i, v, j, u, h => by simp [m_sto2] at h
  | [x], 0, v, j, u, h => by simp [m_sto2] at h
  | x :: y :: r, 0, v, 0, u, h => by
    simp [m_sto2] at h
    exact Or.inl ⟨rfl, h.symm⟩
  | x :: y :: r, 0, v, 1, u, h => by simp [m_sto2] at h
  | x :: y :: r, 0, v, j + 2, u, h => by
    simp [m_sto2] at h
    exact Or.inr ⟨by omega, by omega, by simpa using h, by omega⟩
  | x :: r, 1, v, 0, u, h => by
    refine Or.inr ⟨by omega, by omega, ?_, ?_⟩
    · simp only [m_sto2_c1, List.getElem?_cons_zero, Option.some.injEq] at h
      cases x with
      | none => simp at h
      | some y =>
        simp only at h
        split at h
        · cases h
        · simpa using h
    · rintro ⟨-, hc⟩
      simp only [m_sto2_c1, List.getElem?_cons_zero, Option.some.injEq] at h
      cases x with
      | none => simp at h
      | some y =>
        simp only at h
        split at h
        · cases h
        · rename_i hf
          cases h
          rw [hf] at hc
          cases hc
  | x :: r, 1, v, j + 1, u, h => by
    simp only [m_sto2_c1, List.getElem?_cons_succ] at h
    rcases m_sto2_get r 0 v j u h with ⟨h1, h2⟩ | ⟨h1, h4, h2, h3⟩
    · exact Or.inl ⟨by omega, h2⟩
    · exact Or.inr ⟨by omega, by omega, by simpa using h2, by omega⟩
  | x :: r, i + 2, v, 0, u, h => by
    simp only [m_sto2_c2, List.getElem?_cons_zero] at h
    exact Or.inr ⟨by omega, by omega, by simpa using h, by omega⟩
  | x :: r, i + 2, v, j + 1, u, h => by
    simp only [m_sto2_c2, List.getElem?_cons_succ] at h
    rcases m_sto2_get r (i + 1) v j u h with ⟨h1, h2⟩ | ⟨h1, h4, h2, h3⟩
    · exact Or.inl ⟨by omega, h2⟩
    · exact Or.inr ⟨by omega, by omega, by simpa using h2, fun ⟨q1, q2⟩ => h3 ⟨by omega, q2⟩⟩
theorem m_sto2_len : ∀ (lo : List (Option Value)) (i : Nat) (v : Value), i + 1 < lo.length → (m_sto2 lo i v).length = lo.length
  | [], i, v, h => by simp at h
  | [x], 0, v, h => by simp at h
  | x :: y :: r, 0, v, h => by simp [m_sto2]
  | x :: r, 1, v, h => by
    have := m_sto2_len r 0 v (by simp at h; omega)
    simp [m_sto2_c1, this]
  | x :: r, i + 2, v, h => by
    have := m_sto2_len r (i + 1) v (by simp at h; omega)
    simp [m_sto2_c2, this]
theorem m_pad_get : ∀ (n : Nat) (l : List (Option Value)) (j : Nat) (u : Value), (m_pad n l)[j]? = some (some u) → l[j]? = some (some u)
  | 0, l, j, u, h => h
  | n + 1, [], 0, u, h => by simp [m_pad] at h
  | n + 1, [], j + 1, u, h => by
    simp only [m_pad, List.getElem?_cons_succ] at h
    have := m_pad_get n [] j u h
    simp at this
  | n + 1, x :: l, 0, u, h => by simpa [m_pad] using h
  | n + 1, x :: l, j + 1, u, h => by
    simp only [m_pad, List.getElem?_cons_succ] at h ⊢
    exact m_pad_get n l j u h
theorem m_pad_len : ∀ (n : Nat) (l : List (Option Value)), l.length ≤ n → (m_pad n l).length = n
  | 0, [], _ => rfl
  | 0, x :: l, h => by simp at h
  | n + 1, [], _ => by simp [m_pad, m_pad_len n [] (by simp)]
  | n + 1, x :: l, h => by simp [m_pad, m_pad_len n l (by simpa using h)]
theorem m_pop_eq : ∀ (n : Nat) (st as r : List Value), m_pop n st = some (as, r) → st = as.reverse ++ r ∧ as.length = n
  | 0, st, as, r, h => by
    simp [m_pop] at h
    obtain ⟨rfl, rfl⟩ := h
    simp
  | n + 1, [], as, r, h => by simp [m_pop] at h
  | n + 1, v :: st, as, r, h => by
    simp only [m_pop] at h
    cases hp : m_pop n st with
    | none => simp [hp] at h
    | some q =>
      obtain ⟨a2, r2⟩ := q
      simp [hp] at h
      obtain ⟨rfl, rfl⟩ := h
      obtain ⟨h1, h2⟩ := m_pop_eq n st a2 r2 hp
      subst h1
      simp [h2]
def m_tr (ad : Nat → Nat) : Value → Value
  | .ref k => .ref (ad k)
  | v => v
theorem m_tr_c2 (ad : Nat → Nat) (v : Value) : m_c2 (m_tr ad v) = m_c2 v := by cases v <;> rfl
theorem m_tr_cat (ad : Nat → Nat) (v : Value) : (m_tr ad v).category = v.category := by cases v <;> rfl
theorem m_cat_eq (ad : Nat → Nat) : ∀ st : List Value, ((st.map (m_tr ad)).map fun v => v.category).sum = m_cat st
  | [] => rfl
  | v :: r => by
    simp only [List.map_cons, List.sum_cons, m_cat, m_cat_eq ad r, m_tr_cat, m_c2_cat v]
    cases m_c2 v <;> simp
/-- the locals as a list of places -/
def m_al (ad : Nat → Nat) : Nat → List (Option Value) → List (Nat × Value)
  | _, [] => []
  | i, none :: r => m_al ad (i + 1) r
  | i, some v :: r => (i, m_tr ad v) :: m_al ad (i + 1) r
theorem m_al_mem (ad : Nat → Nat) : ∀ (lo : List (Option Value)) (i : Nat) (q : Nat × Value), q ∈ m_al ad i lo → ∃ (j : Nat) (v : Value), q = (i + j, m_tr ad v) ∧ lo[j]? = some (some v)
  | [], i, q, h => by simp [m_al] at h
  | none :: r, i, q, h => by
    obtain ⟨j, v, h1, h2⟩ := m_al_mem ad r (i + 1) q h
    exact ⟨j + 1, v, by rw [h1]; simp; omega, by simpa using h2⟩
  | some u :: r, i, q, h => by
    rcases List.mem_cons.mp h with h | h
    · exact ⟨0, u, by rw [h]; rfl, rfl⟩
    · obtain ⟨j, v, h1, h2⟩ := m_al_mem ad r (i + 1) q h
      exact ⟨j + 1, v, by rw [h1]; simp; omega, by simpa using h2⟩
theorem m_al_in (ad : Nat → Nat) : ∀ (lo : List (Option Value)) (i j : Nat) (v : Value), lo[j]? = some (some v) → (i + j, m_tr ad v) ∈ m_al ad i lo
  | [], i, j, v, h => by simp at h
  | none :: r, i, 0, v, h => by simp at h
  | none :: r, i, j + 1, v, h => by
    have := m_al_in ad r (i + 1) j v (by simpa using h)
    simp only [m_al]
    rw [show i + (j + 1) = i + 1 + j by omega]
    exact this
  | some u :: r, i, 0, v, h => by
    simp at h
    subst h
    simp [m_al]
  | some u :: r, i, j + 1, v, h => by
    have := m_al_in ad r (i + 1) j v (by simpa using h)
    simp only [m_al]
    rw [show i + (j + 1) = i + 1 + j by omega]
    exact List.mem_cons_of_mem _ this
def m_lh (ad : Nat → Nat) (ls : Array Slot) (nL : Nat) (lo : List (Option Value)) : Prop := lv_has ls nL (m_al ad 0 lo) ∧ lo.length = nL
theorem m_lv_weak {ls : Array Slot} {nL : Nat} {l l' : List (Nat × Value)} (h : lv_has ls nL l) (hs : ∀ q ∈ l', q ∈ l) : lv_has ls nL l' := ⟨h.1, h.2.1, fun q hq => h.2.2 q (hs q hq)⟩
theorem m_lh_at {ad : Nat → Nat} {ls : Array Slot} {nL : Nat} {lo : List (Option Value)} (h : m_lh ad ls nL lo) {i : Nat} {v : Value} (hi : m_nth lo i = some (some v)) : ls[i]? = some (.val (m_tr ad v)) := by
  rw [m_nth_eq] at hi
  have := h.1.2.2 (0 + i, m_tr ad v) (m_al_in ad lo 0 i v hi)
  simpa using this
theorem m_lh_sto1 {ad : Nat → Nat} {ls : Array Slot} {nL : Nat} {lo : List (Option Value)} {i : Nat} {v : Value} (hl : lo.length = nL) (hc : m_c2 v = false)
    (h : lv_has ls nL ((i, m_tr ad v) :: (m_al ad 0 lo).filter (fun q => !(q.1 == i) && !(q.1 + 1 == i && q.2.category == 2)))) : m_lh ad ls nL (m_sto1 lo i v) := by
  refine ⟨m_lv_weak h fun q hq => ?_, by rw [m_sto1_len]; exact hl⟩
  obtain ⟨j, u, rfl, hu⟩ := m_al_mem ad _ 0 q hq
  rw [Nat.zero_add] at *
  rcases m_sto1_get lo i v j u hu with ⟨rfl, rfl⟩ | ⟨h1, h2, h3⟩
  · exact List.mem_cons_self
  · refine List.mem_cons_of_mem _ (List.mem_filter.mpr ⟨by have := m_al_in ad lo 0 j u h2; rwa [Nat.zero_add] at this, ?_⟩)
    simp only [m_tr_cat, Bool.and_eq_true, Bool.not_eq_true', beq_eq_false_iff_ne, ne_eq, Bool.and_eq_false_iff]
    refine ⟨h1, ?_⟩
    by_cases hj : j + 1 = i
    · right
      have hf : ¬ m_c2 u = true := fun hh => h3 ⟨hj, hh⟩
      rw [m_c2_cat u, if_neg hf]
      decide
    · exact Or.inl hj
theorem m_lh_sto2 {ad : Nat → Nat} {ls : Array Slot} {nL : Nat} {lo : List (Option Value)} {i : Nat} {v : Value} (hl : lo.length = nL) (hi : i + 1 < nL)
    (h : lv_has ls nL ((i, m_tr ad v) :: (m_al ad 0 lo).filter (fun q => !(q.1 == i) && (!(q.1 == i + 1) && !(q.1 + 1 == i && q.2.category == 2))))) : m_lh ad ls nL (m_sto2 lo i v) := by
  refine ⟨m_lv_weak h fun q hq => ?_, by rw [m_sto2_len _ _ _ (by rw [hl]; exact hi)]; exact hl⟩
  obtain ⟨j, u, rfl, hu⟩ := m_al_mem ad _ 0 q hq
  rw [Nat.zero_add] at *
  rcases m_sto2_get lo i v j u hu with ⟨rfl, rfl⟩ | ⟨h1, h4, h2, h3⟩
  · exact List.mem_cons_self
  · refine List.mem_cons_of_mem _ (List.mem_filter.mpr ⟨by have := m_al_in ad lo 0 j u h2; rwa [Nat.zero_add] at this, ?_⟩)
    simp only [m_tr_cat, Bool.and_eq_true, Bool.not_eq_true', beq_eq_false_iff_ne, ne_eq, Bool.and_eq_false_iff]
    refine ⟨h1, h4, ?_⟩
    by_cases hj : j + 1 = i
    · right
      have hf : ¬ m_c2 u = true := fun hh => h3 ⟨hj, hh⟩
      rw [m_c2_cat u, if_neg hf]
      decide
    · exact Or.inl hj
theorem m_ent_args (ad : Nat → Nat) : ∀ (as : List Value) (i j : Nat) (u : Value), (m_ent as)[j]? = some (some u) → (i + j, m_tr ad u) ∈ lv_args i (as.map (m_tr ad))
  | [], i, j, u, h => by simp [m_ent] at h
  | v :: r, i, j, u, h => by
    simp only [m_ent] at h
    simp only [List.map_cons, lv_args, m_tr_cat]
    cases hc : m_c2 v with
    | true =>
      simp only [hc] at h
      have h2 : v.category = 2 := by rw [m_c2_cat, hc]; rfl
      rw [if_pos h2]
      match j, h with
      | 0, h => simp at h; subst h; simp
      | 1, h => simp at h
      | j + 2, h =>
        have := m_ent_args ad r (i + 2) j u (by simpa using h)
        rw [show i + (j + 2) = i + 2 + j by omega]
        exact List.mem_cons_of_mem _ this
    | false =>
      simp only [hc] at h
      have h2 : ¬ v.category = 2 := by rw [m_c2_cat, hc]; decide
      rw [if_neg h2]
      match j, h with
      | 0, h => simp at h; subst h; simp
      | j + 1, h =>
        have := m_ent_args ad r (i + 1) j u (by simpa using h)
        rw [show i + (j + 1) = i + 1 + j by omega]
        exact List.mem_cons_of_mem _ this
theorem m_ent_len (ad : Nat → Nat) : ∀ as : List Value, (lg_sl (as.map (m_tr ad))).length = (m_ent as).length
  | [] => rfl
  | v :: r => by
    have ih := m_ent_len ad r
    simp only [lg_sl] at ih
    simp only [List.map_cons, lg_sl, List.flatMap_cons, List.length_append, m_ent, m_tr_cat, m_c2_cat v, ih]
    cases m_c2 v <;> simp <;> omega
theorem m_lh_entry (ad : Nat → Nat) (as : List Value) (n : Nat) (h : (m_ent as).length ≤ n) : m_lh ad ((lg_sl (as.map (m_tr ad)) ++ List.replicate (n - (lg_sl (as.map (m_tr ad))).length) Slot.unset).toArray) n (m_pad n (m_ent as)) := by
  refine ⟨m_lv_weak (lv_entry (as.map (m_tr ad)) (n := n) (by rw [m_ent_len]; exact h)) fun q hq => ?_, m_pad_len n _ h⟩
  obtain ⟨j, u, rfl, hu⟩ := m_al_mem ad _ 0 q hq
  exact m_ent_args ad as 0 j u (m_pad_get n _ j u hu)
