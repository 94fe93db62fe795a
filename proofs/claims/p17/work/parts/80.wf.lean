/-! ===== the code goes forward alone ===== -/
abbrev Cd : Type := List (Int32 × Int32 × Int32)
/-- step j of a code of n steps -/
def okS (j n : Nat) (x : Int32 × Int32 × Int32) : Prop := (x.1 = 0) ∨ (x.1 = 1 ∧ ∃ i, i < 20 ∧ x.2.1 = nI i) ∨ (x.1 = 2 ∧ ∃ i, i < 20 ∧ x.2.1 = nI i) ∨ ((x.1 = 3 ∨ x.1 = 4) ∧ ∃ t, j < t ∧ t ≤ n ∧ x.2.1 = nI t) ∨ (x.1 = 5 ∧ ((x.2.1 = 1 ∧ x.2.2 = 0) ∨ x.2.1 = 2 ∨ x.2.1 = 3))
theorem okS.mono {j n m : Nat} {x : Int32 × Int32 × Int32} (h : okS j n x) (hm : n ≤ m) : okS j m x := by
  rcases h with h | h | h | ⟨h, t, h1, h2, h3⟩ | h
  · exact Or.inl h
  · exact Or.inr (Or.inl h)
  · exact Or.inr (Or.inr (Or.inl h))
  · exact Or.inr (Or.inr (Or.inr (Or.inl ⟨h, t, h1, by omega, h3⟩)))
  · exact Or.inr (Or.inr (Or.inr (Or.inr h)))
/-- steps that come to THE TRACE -/
def cnt (c : Cd) : Nat := c.countP (fun x => x.1 == 0 || x.1 == 1)
/-- c becomes d: what was there stays, what is new is right -/
def Xt (c d : Cd) : Prop := c.length ≤ d.length ∧ (∀ j, j < c.length → d[j]? = c[j]?) ∧ ∀ j x, c.length ≤ j → d[j]? = some x → okS j d.length x
theorem Xt.rf {c : Cd} : Xt c c := ⟨Nat.le_refl _, fun _ _ => rfl, fun j x h e => by rw [List.getElem?_eq_none (by omega)] at e; cases e⟩
theorem Xt.tr {c d e : Cd} (h : Xt c d) (h2 : Xt d e) : Xt c e := by
  obtain ⟨a1, a2, a3⟩ := h
  obtain ⟨b1, b2, b3⟩ := h2
  refine ⟨by omega, fun j hj => by rw [b2 j (by omega), a2 j hj], fun j x hj hx => ?_⟩
  by_cases g : j < d.length
  · rw [b2 j g] at hx
    exact (a3 j x hj hx).mono b1
  · exact b3 j x (by omega) hx
theorem Xt.app {c : Cd} {x : Int32 × Int32 × Int32} (h : okS c.length (c.length + 1) x) : Xt c (c ++ [x]) := by
  refine ⟨by rw [List.length_append]; omega, fun j hj => List.getElem?_append_left hj, fun j y hj hy => ?_⟩
  rw [List.length_append, List.length_singleton]
  by_cases g : j = c.length
  · subst g
    simp at hy
    subst hy
    exact h
  · rw [List.getElem?_eq_none (by rw [List.length_append, List.length_singleton]; omega)] at hy
    cases hy
/-- what a part does: the code from c on, and how many come to THE TRACE -/
def Xr (s : JSt) (a : Nat) (r : JRs) : Prop := ∀ s', r = .ok s' → Xt s.cd s'.cd ∧ cnt s'.cd + s.sm ≤ cnt s.cd + a + s'.sm ∧ s.sm ≤ s'.sm
theorem cnt_app {c : Cd} {x : Int32 × Int32 × Int32} : cnt (c ++ [x]) ≤ cnt c + 1 ∧ ((¬ x.1 = 0 ∧ ¬ x.1 = 1) → cnt (c ++ [x]) = cnt c) := by
  unfold cnt
  rw [List.countP_append]
  constructor
  · have : List.countP (fun x => x.1 == 0 || x.1 == 1) [x] ≤ 1 := by
      have := List.countP_le_length (p := fun (x : Int32 × Int32 × Int32) => x.1 == 0 || x.1 == 1) (l := [x])
      simpa using this
    omega
  · intro h
    rw [List.countP_singleton]
    rw [if_neg (by simp; exact h)]
    omega
theorem Xr.ok {s : JSt} {a : Nat} {s' : JSt} (h : s'.cd = s.cd) (h2 : s'.sm = s.sm) : Xr s a (.ok s') := fun q e => by
  cases e
  rw [h, h2]
  exact ⟨Xt.rf, by omega, Nat.le_refl _⟩
theorem Xr.er {s : JSt} {a : Nat} {e : Nat × Nat} : Xr s a (.error e) := fun q h => by cases h
theorem Xr.f {tx : List Nat} {n a : Nat} {s : JSt} {r : JRs} : Xr s a (jfal tx n r) := by cases r <;> exact Xr.er
theorem Xr.mono {s : JSt} {a b : Nat} {r : JRs} (h : Xr s a r) (hab : a ≤ b) : Xr s b r := fun q e => by
  obtain ⟨h1, h2, h3⟩ := h q e
  exact ⟨h1, by omega, h3⟩
theorem Xr.adv {s : JSt} {a : Nat} {r : JRs} (h : Xr s a r) : Xr s a (jadv r) := fun q e => by
  cases r with
  | error _ => cases e
  | ok z => cases e; exact h z rfl
theorem Xr.xpc {tx : List Nat} {k a : Nat} {s : JSt} {r : JRs} (h : Xr s a r) : Xr s a (jxpc tx k r) := fun q e => by
  obtain ⟨z, rfl, rfl, -⟩ := jxpc_ok e
  exact h z rfl
theorem Xr.nmb {tx : List Nat} {a : Nat} {s : JSt} {r : JRs} (h : Xr s a r) : Xr s a (jnmb tx r) := fun q e => by
  obtain ⟨z, rfl, rfl, -⟩ := jnmb_ok e
  exact h z rfl
theorem Xr.sst {x : Int32} {a : Nat} {s : JSt} {r : JRs} (h : Xr s a r) : Xr s a (jsst x r) := fun q e => by
  cases r with
  | error _ => cases e
  | ok z => cases e; exact h z rfl
theorem Xr.emt {k x y : Int32} {a : Nat} {s : JSt} {r : JRs} (h : Xr s a r) (hk : ∀ z, r = .ok z → okS z.cd.length (z.cd.length + 1) (k, x, y)) : Xr s (a + 1) (jemt k x y r) := fun q e => by
  obtain ⟨z, rfl, e | e⟩ := jemt_ok e
  · subst e
    obtain ⟨h1, h2, h3⟩ := h z rfl
    have h4 := (cnt_app (c := z.cd) (x := (k, x, y))).1
    refine ⟨h1.tr (Xt.app (hk z rfl)), ?_, h3⟩
    show cnt (z.cd ++ [(k, x, y)]) + s.sm ≤ cnt s.cd + (a + 1) + z.sm
    omega
  · subst e
    obtain ⟨h1, h2, h3⟩ := h q rfl
    exact ⟨h1, by omega, h3⟩
theorem Xr.emt0 {k x y : Int32} {a : Nat} {s : JSt} {r : JRs} (h : Xr s a r) (hk : ∀ z, r = .ok z → okS z.cd.length (z.cd.length + 1) (k, x, y)) (h0 : ¬ k = 0 ∧ ¬ k = 1) : Xr s a (jemt k x y r) := fun q e => by
  obtain ⟨z, rfl, e | e⟩ := jemt_ok e
  · subst e
    obtain ⟨h1, h2, h3⟩ := h z rfl
    have h4 := (cnt_app (c := z.cd) (x := (k, x, y))).2 h0
    refine ⟨h1.tr (Xt.app (hk z rfl)), ?_, h3⟩
    show cnt (z.cd ++ [(k, x, y)]) + s.sm ≤ cnt s.cd + a + z.sm
    omega
  · subst e
    exact h q rfl
theorem Xr.stn {x y : Int32} {a : Nat} {s : JSt} {r : JRs} (h : Xr s a r) (hx : ∀ z, r = .ok z → ∃ i, i < 20 ∧ x = nI i) : Xr s a (jstn x y r) := fun q e => by
  have h1 := h.emt0 (k := 2) (x := x) (y := y) (fun z hz => Or.inr (Or.inr (Or.inl ⟨rfl, hx z hz⟩))) ⟨by decide, by decide⟩
  unfold jstn at e
  cases hz : jemt 2 x y r with
  | error _ => rw [hz] at e; cases e
  | ok z =>
    rw [hz] at e
    cases e
    exact h1 z hz
/-- at most 20 names -/
def N20 (r : JRs) : Prop := ∀ s, r = .ok s → s.nm.length ≤ 20
theorem jfnd_20 {tx : List Nat} {s : JSt} (h : s.nm.length ≤ 20) (h0 : ¬ jfnd tx (.ok s) < 0) : ∃ i, i < 20 ∧ jfnd tx (.ok s) = nI i := by
  rcases jfnd_cs (tx := tx) (s := s) with q | ⟨i, h1, h2⟩
  · rw [q] at h0; exact absurd (by decide) h0
  · exact ⟨i, by omega, h2⟩
theorem N20_ok {s : JSt} (h : s.nm.length ≤ 20) : N20 (.ok s) := fun q e => by cases e; exact h
theorem N20_er {e : Nat × Nat} : N20 (.error e) := fun q h => by cases h
theorem N20_f {tx : List Nat} {n : Nat} {r : JRs} : N20 (jfal tx n r) := by cases r <;> exact N20_er
theorem N20_b {r : JRs} {g : JSt → JRs} (h : N20 r) (hg : ∀ s, r = .ok s → s.nm.length ≤ 20 → N20 (g s)) : N20 (jb r g) := by
  cases r with
  | ok s => exact hg s rfl (h s rfl)
  | error e => exact N20_er
theorem N20_adv {r : JRs} (h : N20 r) : N20 (jadv r) := N20_b h fun s _ hs => N20_ok hs
theorem N20_xpc {tx : List Nat} {k : Nat} {r : JRs} (h : N20 r) : N20 (jxpc tx k r) := by
  unfold jxpc
  split
  · exact N20_adv h
  · exact N20_f
theorem N20_nmb {tx : List Nat} {r : JRs} (h : N20 r) : N20 (jnmb tx r) := by
  unfold jnmb
  split
  · exact N20_adv h
  · exact N20_f
theorem N20_emt {k a b : Int32} {r : JRs} (h : N20 r) : N20 (jemt k a b r) := N20_b h fun s _ hs => by
  split
  · exact N20_ok hs
  · exact N20_ok hs
theorem N20_led {i : Nat} {r : JRs} (h : N20 r) : N20 (jled i r) := N20_b h fun s _ hs => N20_ok hs
theorem N20_sst {x : Int32} {r : JRs} (h : N20 r) : N20 (jsst x r) := N20_b h fun s _ hs => N20_ok hs
theorem N20_stn {x y : Int32} {r : JRs} (h : N20 r) : N20 (jstn x y r) := N20_b (N20_emt h) fun s _ hs => N20_ok hs
theorem N20_opn {tx : List Nat} {d : Nat} {r : JRs} (h : N20 r) : N20 (jopn tx d r) := fun s e => by
  obtain ⟨q, rfl, rfl, -⟩ := jopn_ok e
  exact h q rfl
theorem N20_st1 {tx : List Nat} {r : JRs} (h : N20 r) : N20 (jst1 tx r) := by
  unfold jst1
  split
  · exact h
  · exact N20_f
theorem N20_let {tx : List Nat} {r : JRs} (h : N20 r) : N20 (jlet tx r) := N20_b h fun s _ hs => by
  split
  · exact N20_f
  split
  · exact N20_f
  split
  · exact N20_f
  have hl : (s.nm ++ [(tk tx s.k).2.2.1]).length ≤ 20 := by rw [List.length_append, List.length_singleton]; omega
  simp only
  split
  · exact N20_stn (N20_nmb (N20_adv (N20_adv (N20_ok hl))))
  · exact N20_adv (N20_ok hl)
theorem N20_use {tx : List Nat} {r : JRs} (h : N20 r) : N20 (juse tx r) := N20_b h fun s _ hs => by
  split
  · exact N20_f
  split
  · exact N20_f
  · exact N20_adv (N20_emt h)
theorem N20_yld {tx : List Nat} {r : JRs} (h : N20 r) : N20 (jyld tx r) := by
  unfold jyld
  split
  · exact N20_sst (N20_emt (N20_nmb (N20_adv h)))
  · exact N20_sst (N20_emt (N20_nmb h))
theorem N20_smp {tx : List Nat} {r : JRs} (h : N20 r) : N20 (jsmp tx r) := by
  unfold jsmp
  repeat' split
  · exact N20_emt (N20_nmb (N20_adv h))
  · exact N20_use (N20_adv h)
  · exact N20_stn (N20_nmb (N20_xpc (N20_adv h)))
  · exact N20_sst (N20_emt (N20_adv h))
  · exact N20_sst (N20_emt (N20_nmb (N20_adv h)))
theorem N20_loop {tx : List Nat} {g : JRs → JRs} (hg : ∀ r, N20 r → N20 (g r)) : ∀ (i : Nat) (r : JRs), N20 r → N20 (jloop tx g i r)
  | 0, _, h => h
  | i + 1, r, h => by
    unfold jloop
    split
    · exact N20_loop hg i _ (hg r h)
    · exact h
theorem N20_shr {c : Nat} {r : JRs} (h : N20 r) : N20 (jshr c r) := N20_b h fun s _ hs => N20_ok (by
  show (s.nm.take c).length ≤ 20
  rw [List.length_take]
  omega)
theorem N20_brn {tx : List Nat} {g : JRs → JRs} {r : JRs} (hg : ∀ r, N20 r → N20 (g r)) (h : N20 r) : N20 (jbrn tx g r) := by
  have h1 : N20 (jbr1 g r) := hg _ (N20_adv (N20_emt h))
  unfold jbrn
  split
  · exact N20_sst (N20_led (hg _ (N20_adv (N20_led (N20_emt (N20_sst h1))))))
  · exact N20_sst (N20_led (N20_sst h1))
theorem N20_stmt {tx : List Nat} : ∀ (f : Nat) (r : JRs), N20 r → N20 (jstmt tx f r)
  | 0, r, h => N20_opn (N20_st1 h)
  | f + 1, r, h => N20_b (N20_opn (N20_st1 h)) fun s _ hs => by
    split
    · exact N20_shr (N20_xpc (N20_loop (N20_stmt f) 121 _ (N20_adv (N20_ok hs))))
    split
    · exact N20_brn (N20_stmt f) (N20_ok hs)
    split
    · exact N20_xpc (N20_let (N20_adv (N20_ok hs)))
    split
    · exact N20_xpc (N20_yld (N20_adv (N20_ok hs)))
    · exact N20_xpc (N20_smp (N20_ok hs))
