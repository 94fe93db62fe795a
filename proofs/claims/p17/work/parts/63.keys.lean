/-! ===== KEYS, as they rise ===== -/
/-- key, target, how many -/
abbrev Kt : Type := List (Int32 × Int32 × Int32)
def kpos (x : Int32) : Kt → Nat
  | [] => 0
  | y :: r => if y.1 < x then kpos x r + 1 else 0
def kput (x a : Int32) (t : Kt) : Kt := if (t[kpos x t]?.map (fun y => y.1)) = some x then t.modify (kpos x t) (fun y => (y.1, y.2.1, y.2.2 + 1)) else t.take (kpos x t) ++ (x, a, 1) :: t.drop (kpos x t)
def ktab (l : List (Nat × Int32 × List Nat)) : Kt := l.foldl (fun t y => kput y.2.1 (nI y.1) t) []
theorem kpos_le (x : Int32) : ∀ t : Kt, kpos x t ≤ t.length
  | [] => Nat.le_refl _
  | y :: r => by
    unfold kpos
    have := kpos_le x r
    split
    · simp; exact this
    · exact Nat.zero_le _
theorem kpos_lt (x : Int32) : ∀ (t : Kt) (j : Nat) (y : Int32 × Int32 × Int32), j < kpos x t → t[j]? = some y → y.1 < x
  | [], j, y, h, e => by cases e
  | z :: r, j, y, h, e => by
    unfold kpos at h
    by_cases g : z.1 < x
    · rw [if_pos g] at h
      cases j with
      | zero => cases e; exact g
      | succ j => exact kpos_lt x r j y (by omega) (by simpa using e)
    · rw [if_neg g] at h
      omega
theorem kpos_at (x : Int32) : ∀ (t : Kt) (y : Int32 × Int32 × Int32), t[kpos x t]? = some y → ¬ y.1 < x
  | [], y, e => by cases e
  | z :: r, y, e => by
    unfold kpos at e
    by_cases g : z.1 < x
    · rw [if_pos g] at e
      exact kpos_at x r y (by simpa using e)
    · rw [if_neg g] at e
      cases e
      exact g
theorem kput_len {x a : Int32} {t : Kt} : (kput x a t).length ≤ t.length + 1 := by
  unfold kput
  have := kpos_le x t
  split
  · rw [List.length_modify]; omega
  · rw [List.length_append, List.length_cons, List.length_take, List.length_drop]; omega
theorem ktab_snoc {l : List (Nat × Int32 × List Nat)} {y : Nat × Int32 × List Nat} : ktab (l ++ [y]) = kput y.2.1 (nI y.1) (ktab l) := by
  unfold ktab
  rw [List.foldl_append]
  rfl
theorem ktab_len : ∀ (l : List (Nat × Int32 × List Nat)), (ktab l).length ≤ l.length := by
  intro l
  have : ∀ (l : List (Nat × Int32 × List Nat)) (t : Kt), (l.foldl (fun t y => kput y.2.1 (nI y.1) t) t).length ≤ t.length + l.length := by
    intro l
    induction l with
    | nil => intro t; simp
    | cons y r ih =>
      intro t
      have h1 := ih (kput y.2.1 (nI y.1) t)
      have h2 := kput_len (x := y.2.1) (a := nI y.1) (t := t)
      simp only [List.foldl_cons, List.length_cons]
      omega
  have := this l []
  unfold ktab
  simpa using this
/-- the rows that hold them -/
def KR (a b d : Nat) (t : Kt) (I : Nat → Nat → Int32) : Prop := t.length ≤ 32 ∧ ∀ j y, t[j]? = some y → I a j = y.1 ∧ I b j = y.2.1 ∧ I d j = y.2.2
/-- while they are shifted -/
def Sh (a b d len i : Nat) (I J : Nat → Nat → Int32) : Prop := ∀ p, p = a ∨ p = b ∨ p = d → ∀ j, j ≤ len → J p j = if i < j then I p (j - 1) else I p j
theorem Sh.st {a b d len i : Nat} {I J : Nat → Nat → Int32} (hab : a ≠ b) (had : a ≠ d) (hbd : b ≠ d) (h : Sh a b d len (i + 1) I J) (hi : i + 1 ≤ len) : Sh a b d len i I (m_up (m_up (m_up J a (i + 1) (J a i)) b (i + 1) (J b i)) d (i + 1) (J d i)) := by
  intro p hp j hj
  have h0 : J p i = I p i := by rw [h p hp i (by omega), if_neg (by omega)]
  have hv : m_up (m_up (m_up J a (i + 1) (J a i)) b (i + 1) (J b i)) d (i + 1) (J d i) p j = if j = i + 1 then J p i else J p j := by
    rcases hp with rfl | rfl | rfl
    · by_cases g : j = i + 1
      · simp [m_upr, hab, had, g]
      · simp [m_upr, hab, had, g]
    · have hba : ¬ p = a := fun z => hab z.symm
      by_cases g : j = i + 1
      · simp [m_upr, hba, hbd, g]
      · simp [m_upr, hba, hbd, g]
    · have hda : ¬ p = a := fun z => had z.symm
      have hdb : ¬ p = b := fun z => hbd z.symm
      by_cases g : j = i + 1
      · simp [m_upr, hda, hdb, g]
      · simp [m_upr, hda, hdb, g]
  rw [hv]
  by_cases g : j = i + 1
  · subst g
    rw [if_pos rfl, h0, if_pos (by omega)]
    rfl
  · rw [if_neg g, h p hp j hj]
    by_cases g2 : i + 1 < j
    · rw [if_pos g2, if_pos (by omega)]
    · rw [if_neg g2, if_neg (by omega)]
theorem Sh.fin {a b d : Nat} {t : Kt} {x y : Int32} {I J : Nat → Nat → Int32} (hab : a ≠ b) (had : a ≠ d) (hbd : b ≠ d) (hR : KR a b d t I) (h : Sh a b d t.length (kpos x t) I J) (hl : t.length < 32) (hne : ¬ (t[kpos x t]?.map (fun y => y.1)) = some x) : KR a b d (kput x y t) (m_up (m_up (m_up J a (kpos x t) x) b (kpos x t) y) d (kpos x t) 1) := by
  have hk := kpos_le x t
  have he : kput x y t = t.take (kpos x t) ++ (x, y, 1) :: t.drop (kpos x t) := by unfold kput; rw [if_neg hne]
  have htl : (t.take (kpos x t)).length = kpos x t := by rw [List.length_take]; omega
  refine ⟨by have := kput_len (x := x) (a := y) (t := t); omega, fun j z hz => ?_⟩
  rw [he] at hz
  have hba : ¬ b = a := fun z => hab z.symm
  have hda : ¬ d = a := fun z => had z.symm
  have hdb : ¬ d = b := fun z => hbd z.symm
  by_cases g : j = kpos x t
  · subst g
    rw [List.getElem?_append_right (by omega), htl] at hz
    simp at hz
    subst hz
    simp [m_upr, hab, had, hbd, hba, hda, hdb]
  · have e1 : m_up (m_up (m_up J a (kpos x t) x) b (kpos x t) y) d (kpos x t) 1 a j = J a j := by simp [m_upr, hab, had, g]
    have e2 : m_up (m_up (m_up J a (kpos x t) x) b (kpos x t) y) d (kpos x t) 1 b j = J b j := by simp [m_upr, hba, hbd, g]
    have e3 : m_up (m_up (m_up J a (kpos x t) x) b (kpos x t) y) d (kpos x t) 1 d j = J d j := by simp [m_upr, hda, hdb, g]
    rw [e1, e2, e3]
    by_cases g2 : j < kpos x t
    · rw [List.getElem?_append_left (by omega), List.getElem?_take, if_pos g2] at hz
      rw [h a (Or.inl rfl) j (by omega), h b (Or.inr (Or.inl rfl)) j (by omega), h d (Or.inr (Or.inr rfl)) j (by omega), if_neg (by omega), if_neg (by omega), if_neg (by omega)]
      exact hR.2 j z hz
    · obtain ⟨q, rfl⟩ : ∃ q, j = kpos x t + (q + 1) := ⟨j - kpos x t - 1, by omega⟩
      rw [List.getElem?_append_right (by omega), htl, show kpos x t + (q + 1) - kpos x t = q + 1 by omega, List.getElem?_cons_succ, List.getElem?_drop] at hz
      have hlt : kpos x t + q < t.length := by
        by_cases g3 : kpos x t + q < t.length
        · exact g3
        · rw [List.getElem?_eq_none (by omega)] at hz; cases hz
      rw [h a (Or.inl rfl) _ (by omega), h b (Or.inr (Or.inl rfl)) _ (by omega), h d (Or.inr (Or.inr rfl)) _ (by omega), if_pos (by omega), if_pos (by omega), if_pos (by omega), show kpos x t + (q + 1) - 1 = kpos x t + q by omega]
      exact hR.2 _ z hz
theorem KR.inc {a b d : Nat} {t : Kt} {x y : Int32} {I : Nat → Nat → Int32} (had : a ≠ d) (hbd : b ≠ d) (hR : KR a b d t I) (hne : (t[kpos x t]?.map (fun y => y.1)) = some x) : KR a b d (kput x y t) (m_up I d (kpos x t) (I d (kpos x t) + 1)) := by
  have he : kput x y t = t.modify (kpos x t) (fun y => (y.1, y.2.1, y.2.2 + 1)) := by unfold kput; rw [if_pos hne]
  rw [he]
  refine ⟨by rw [List.length_modify]; exact hR.1, fun j z hz => ?_⟩
  rw [List.getElem?_modify] at hz
  cases hw : t[j]? with
  | none => rw [hw] at hz; cases hz
  | some w =>
    obtain ⟨h1, h2, h3⟩ := hR.2 j w hw
    rw [hw] at hz
    by_cases g : kpos x t = j
    · subst g
      have hz : some (w.1, w.2.1, w.2.2 + 1) = some z := by simpa using hz
      have hz := Option.some.inj hz
      subst hz
      simp [m_upr, had, hbd, h1, h2, h3]
    · have hz : some w = some z := by simpa [g] using hz
      have hz := Option.some.inj hz
      subst hz
      have g2 : ¬ j = kpos x t := fun u => g u.symm
      simp [m_upr, had, hbd, g2, h1, h2, h3]
