/-! ===== the reference's loop over stmts, and what is judged ===== -/
/-! how far a stmt brings it -/
def Gr (s s' : JSt) : Prop := s.sm + 1 ≤ s'.sm ∧ s'.cd.length + 2 * s.sm ≤ s.cd.length + 2 * s'.sm
def Gr0 (s s' : JSt) : Prop := s.sm ≤ s'.sm ∧ s'.cd.length + 2 * s.sm ≤ s.cd.length + 2 * s'.sm
/-- at most `a` more steps, the same stmts -/
def Gs (a : Nat) (s : JSt) (r : JRs) : Prop := ∀ s', r = .ok s' → s'.sm = s.sm ∧ s'.cd.length ≤ s.cd.length + a
theorem Gs_ok {a : Nat} {s s' : JSt} (h1 : s'.sm = s.sm) (h2 : s'.cd.length ≤ s.cd.length + a) : Gs a s (.ok s') := fun q e => by cases e; exact ⟨h1, h2⟩
theorem Gs_er {a : Nat} {s : JSt} {e : Nat × Nat} : Gs a s (.error e) := fun q h => by cases h
theorem Gs_f {tx : List Nat} {n a : Nat} {s : JSt} {r : JRs} : Gs a s (jfal tx n r) := by cases r <;> exact Gs_er
theorem Gs_adv {a : Nat} {s : JSt} {r : JRs} (h : Gs a s r) : Gs a s (jadv r) := fun q e => by
  cases r with
  | error _ => cases e
  | ok z => cases e; exact h z rfl
theorem Gs_xpc {tx : List Nat} {k a : Nat} {s : JSt} {r : JRs} (h : Gs a s r) : Gs a s (jxpc tx k r) := fun q e => by
  obtain ⟨z, rfl, rfl, -⟩ := jxpc_ok e
  exact h z rfl
theorem Gs_nmb {tx : List Nat} {a : Nat} {s : JSt} {r : JRs} (h : Gs a s r) : Gs a s (jnmb tx r) := fun q e => by
  obtain ⟨z, rfl, rfl, -⟩ := jnmb_ok e
  exact h z rfl
theorem Gs_emt {k x y : Int32} {a : Nat} {s : JSt} {r : JRs} (h : Gs a s r) : Gs (a + 1) s (jemt k x y r) := fun q e => by
  obtain ⟨z, rfl, e | e⟩ := jemt_ok e
  · subst e
    have := h z rfl
    exact ⟨this.1, by rw [semt_len]; omega⟩
  · subst e
    have := h q rfl
    exact ⟨this.1, by omega⟩
theorem Gs_sst {x : Int32} {a : Nat} {s : JSt} {r : JRs} (h : Gs a s r) : Gs a s (jsst x r) := fun q e => by
  cases r with
  | error _ => cases e
  | ok z => cases e; exact h z rfl
theorem Gs_stn {x y : Int32} {a : Nat} {s : JSt} {r : JRs} (h : Gs a s r) : Gs (a + 1) s (jstn x y r) := fun q e => by
  have h1 := Gs_emt (k := 2) (x := x) (y := y) h
  unfold jstn at e
  cases hz : jemt 2 x y r with
  | error _ => rw [hz] at e; cases e
  | ok z =>
    rw [hz] at e
    cases e
    exact h1 z hz
theorem Gs_mono {a b : Nat} {s : JSt} {r : JRs} (h : Gs a s r) (hab : a ≤ b) : Gs b s r := fun q e => ⟨(h q e).1, by have := (h q e).2; omega⟩
theorem Gs_let {tx : List Nat} {s q : JSt} (h : Gs 0 s (.ok q)) : Gs 1 s (jlet tx (.ok q)) := by
  obtain ⟨h1, h2⟩ := h q rfl
  have hn : Gs 0 s (.ok (q.wnm (q.nm ++ [(tk tx q.k).2.2.1]))) := Gs_ok h1 h2
  have hj : jlet tx (.ok q) = if ¬ (tk tx q.k).1 = 16 then jfal tx 2 (.ok q) else if ¬ jfnd tx (.ok q) < 0 then jfal tx 6 (.ok q) else if 20 ≤ q.nm.length then jfal tx 12 (.ok q) else (if jkd tx (jadv (.ok (q.wnm (q.nm ++ [(tk tx q.k).2.2.1])))) = 24 then jstn (nI q.nm.length) (jnmv tx (jadv (jadv (.ok (q.wnm (q.nm ++ [(tk tx q.k).2.2.1])))))) (jnmb tx (jadv (jadv (.ok (q.wnm (q.nm ++ [(tk tx q.k).2.2.1])))))) else jadv (.ok (q.wnm (q.nm ++ [(tk tx q.k).2.2.1])))) := rfl
  rw [hj]
  split
  · exact Gs_f
  split
  · exact Gs_f
  split
  · exact Gs_f
  split
  · exact Gs_stn (Gs_nmb (Gs_adv (Gs_adv hn)))
  · exact Gs_mono (Gs_adv hn) (by omega)
theorem Gs_yld {tx : List Nat} {s : JSt} {r : JRs} (h : Gs 0 s r) : Gs 1 s (jyld tx r) := by
  unfold jyld
  split
  · exact Gs_sst (Gs_emt (Gs_nmb (Gs_adv h)))
  · exact Gs_sst (Gs_emt (Gs_nmb h))
theorem Gs_use {tx : List Nat} {s : JSt} {r : JRs} (h : Gs 0 s r) : Gs 1 s (juse tx r) := by
  cases r with
  | error e => exact Gs_er
  | ok q =>
    have hj : juse tx (.ok q) = if ¬ (tk tx q.k).1 = 16 then jfal tx 2 (.ok q) else if ¬ jbit (jfnd tx (.ok q)) q.set then jfal tx 7 (.ok q) else jadv (jemt 1 (jfnd tx (.ok q)) 0 (.ok q)) := rfl
    rw [hj]
    split
    · exact Gs_f
    split
    · exact Gs_f
    · exact Gs_adv (Gs_emt h)
theorem Gs_smp {tx : List Nat} {s : JSt} {r : JRs} (h : Gs 0 s r) : Gs 1 s (jsmp tx r) := by
  unfold jsmp
  repeat' split
  · exact Gs_emt (Gs_nmb (Gs_adv h))
  · exact Gs_use (Gs_adv h)
  · exact Gs_stn (Gs_nmb (Gs_xpc (Gs_adv h)))
  · exact Gs_sst (Gs_emt (Gs_adv h))
  · exact Gs_sst (Gs_emt (Gs_nmb (Gs_adv h)))
theorem jopn_ok {tx : List Nat} {d : Nat} {r : JRs} {s2 : JSt} (h : jopn tx d r = .ok s2) : ∃ s, r = .ok s ∧ s2 = s.wsm (s.sm + 1) ∧ d ≤ 10 := by
  cases r with
  | error e => cases h
  | ok s =>
    simp only [jopn, jb] at h
    by_cases c1 : (tk tx s.k).1 = 16 ∧ jfnd tx (.ok s) < 0
    · rw [if_pos c1] at h; cases h
    rw [if_neg c1] at h
    by_cases c2 : (if s.val = 0 then (tk tx s.k).1 = 12 else (tk tx s.k).1 = 11)
    · rw [if_pos c2] at h; cases h
    rw [if_neg c2] at h
    by_cases c3 : s.set = -1
    · rw [if_pos c3] at h; cases h
    rw [if_neg c3] at h
    by_cases c4 : 120 ≤ s.sm ∨ 10 < d
    · rw [if_pos c4] at h; cases h
    rw [if_neg c4] at h
    cases h
    exact ⟨s, rfl, rfl, by omega⟩
theorem jst1_ok {tx : List Nat} {r : JRs} {s : JSt} (h : jst1 tx r = .ok s) : r = .ok s ∧ jbgn (jkd tx r) = true := by
  unfold jst1 at h
  split at h
  · exact ⟨h, by assumption⟩
  · obtain ⟨e, he⟩ := jfal_err (tx := tx) (a := 2) (r := r)
    rw [he] at h; cases h
theorem jloop_er {tx : List Nat} {g : JRs → JRs} {e : Nat × Nat} : ∀ i, jloop tx g i (.error e) = .error e
  | 0 => rfl
  | i + 1 => by
    unfold jloop
    exact if_neg (show ¬ jbgn 0 = true by decide)
theorem Gr_loop {tx : List Nat} {g : JRs → JRs} (hg : ∀ s s', g (.ok s) = .ok s' → Gr s s') : ∀ (i : Nat) (s s' : JSt), jloop tx g i (.ok s) = .ok s' → Gr0 s s'
  | 0, s, s', h => by cases h; exact ⟨Nat.le_refl _, Nat.le_refl _⟩
  | i + 1, s, s', h => by
    unfold jloop at h
    split at h
    · cases hz : g (.ok s) with
      | error e => rw [hz, jloop_er] at h; cases h
      | ok q =>
        rw [hz] at h
        have h1 := hg s q hz
        have h2 := Gr_loop hg i q s' h
        unfold Gr Gr0 at *
        omega
    · cases h; exact ⟨Nat.le_refl _, Nat.le_refl _⟩
theorem jbrn_ok {tx : List Nat} {g : JRs → JRs} {s s' : JSt} (he : ∀ e, g (.error e) = .error e) (h : jbrn tx g (.ok s) = .ok s') : ∃ s1, g (jadv (jemt 3 0 0 (.ok s))) = .ok s1 ∧
    ((¬ (tk tx s1.k).1 = 15 ∧ s' = (sled s.cd.length s1).wset (s1.set &&& s.set)) ∨
     ((tk tx s1.k).1 = 15 ∧ ∃ s2, g (jadv (jled s.cd.length (jemt 4 0 0 (.ok (s1.wset s.set))))) = .ok s2 ∧ s' = (sled s1.cd.length s2).wset (s2.set &&& s1.set))) := by
  unfold jbrn jbr2 at h
  have hb1 : jbr1 g (.ok s) = g (jadv (jemt 3 0 0 (.ok s))) := rfl
  rw [hb1] at h
  cases hz : g (jadv (jemt 3 0 0 (.ok s))) with
  | error e =>
    rw [hz] at h
    split at h
    · simp only [jsst_er, jemt_er, jled_er, jadv_er, he] at h
      cases h
    · simp only [jsst_er, jled_er] at h
      cases h
  | ok s1 =>
    rw [hz] at h
    refine ⟨s1, rfl, ?_⟩
    by_cases g15 : (tk tx s1.k).1 = 15
    · rw [if_pos (show jkd tx (jsst (jgs (.ok s)) (.ok s1)) = 15 from g15)] at h
      refine Or.inr ⟨g15, ?_⟩
      have e1 : jled (jcl (.ok s)) (jemt 4 0 0 (jsst (jgs (.ok s)) (.ok s1))) = jled s.cd.length (jemt 4 0 0 (.ok (s1.wset s.set))) := rfl
      rw [e1] at h
      cases hy : g (jadv (jled s.cd.length (jemt 4 0 0 (.ok (s1.wset s.set))))) with
      | error e => rw [hy] at h; cases h
      | ok s2 =>
        rw [hy] at h
        cases h
        exact ⟨s2, rfl, rfl⟩
    · rw [if_neg (show ¬ jkd tx (jsst (jgs (.ok s)) (.ok s1)) = 15 from g15)] at h
      refine Or.inl ⟨g15, ?_⟩
      cases h
      rw [i_and_comm s1.set s.set]
      rfl
theorem Gr_brn {tx : List Nat} {g : JRs → JRs} {s s' : JSt} (hg : ∀ s s', g (.ok s) = .ok s' → Gr s s') (he : ∀ e, g (.error e) = .error e) (h : jbrn tx g (.ok s) = .ok s') : s.sm ≤ s'.sm ∧ s'.cd.length + 2 * s.sm ≤ s.cd.length + 2 + 2 * s'.sm := by
  obtain ⟨s1, h1, h2⟩ := jbrn_ok he h
  have a1 : Gs 1 s (jadv (jemt 3 0 0 (.ok s))) := Gs_adv (Gs_emt (Gs_ok rfl (Nat.le_refl _)))
  obtain ⟨q, hq⟩ : ∃ q, jadv (jemt 3 0 0 (.ok s)) = .ok q := ⟨_, rfl⟩
  have a2 := a1 q hq
  rw [hq] at h1
  have a3 := hg q s1 h1
  unfold Gr at a3
  rcases h2 with ⟨-, rfl⟩ | ⟨-, s2, h3, rfl⟩
  · have : ((sled s.cd.length s1).wset (s1.set &&& s.set)).cd.length = s1.cd.length := List.length_modify ..
    have h5 : ((sled s.cd.length s1).wset (s1.set &&& s.set)).sm = s1.sm := rfl
    omega
  · have b1 : Gs 1 s1 (jemt 4 0 0 (.ok (s1.wset s.set))) := Gs_emt (Gs_ok rfl (Nat.le_refl _))
    obtain ⟨z, hz⟩ : ∃ z, jemt 4 0 0 (.ok (s1.wset s.set)) = .ok z := ⟨_, rfl⟩
    have b2 := b1 z hz
    rw [hz] at h3
    have h3' : g (.ok ((sled s.cd.length z).wk (z.k + 1))) = .ok s2 := h3
    have b3 := hg _ _ h3'
    unfold Gr at b3
    have b4 : ((sled s.cd.length z).wk (z.k + 1)).cd.length = z.cd.length := List.length_modify ..
    have b5 : ((sled s.cd.length z).wk (z.k + 1)).sm = z.sm := rfl
    have : ((sled s1.cd.length s2).wset (s2.set &&& s1.set)).cd.length = s2.cd.length := List.length_modify ..
    have h5 : ((sled s1.cd.length s2).wset (s2.set &&& s1.set)).sm = s2.sm := rfl
    omega
theorem Gr_stmt {tx : List Nat} : ∀ (f : Nat) (s s' : JSt), jstmt tx f (.ok s) = .ok s' → Gr s s'
  | 0, s, s', h => by
    simp only [jstmt] at h
    obtain ⟨q, h1, h2, h3⟩ := jopn_ok h
    omega
  | f + 1, s, s', h => by
    simp only [jstmt] at h
    cases hz : jopn tx (11 - (f + 1)) (jst1 tx (.ok s)) with
    | error e => rw [hz] at h; cases h
    | ok q =>
      rw [hz] at h
      obtain ⟨z, h1, rfl, h3⟩ := jopn_ok hz
      obtain ⟨h4, -⟩ := jst1_ok h1
      cases h4
      simp only [jb] at h
      have hs : (s.wsm (s.sm + 1)).sm = s.sm + 1 := rfl
      have hc : (s.wsm (s.sm + 1)).cd = s.cd := rfl
      have hself : Gs 0 (s.wsm (s.sm + 1)) (.ok (s.wsm (s.sm + 1))) := Gs_ok rfl (Nat.le_refl _)
      have fin : ∀ r, Gs 1 (s.wsm (s.sm + 1)) r → r = .ok s' → Gr s s' := by
        intro r h1 h2
        have := h1 s' h2
        rw [hs, hc] at this
        unfold Gr
        omega
      split at h
      · unfold jblk at h
        cases hl : jxpc tx 20 (jloop tx (jstmt tx f) 121 (jadv (.ok (s.wsm (s.sm + 1))))) with
        | error e => rw [hl] at h; cases h
        | ok y =>
          rw [hl] at h
          cases h
          obtain ⟨y2, hy, rfl, -⟩ := jxpc_ok hl
          have := Gr_loop (Gr_stmt f) _ _ _ (show jloop tx (jstmt tx f) 121 (.ok ((s.wsm (s.sm + 1)).wk ((s.wsm (s.sm + 1)).k + 1))) = .ok y2 from hy)
          unfold Gr0 at this
          have e1 : ((s.wsm (s.sm + 1)).wk ((s.wsm (s.sm + 1)).k + 1)).sm = s.sm + 1 := rfl
          have e2 : ((s.wsm (s.sm + 1)).wk ((s.wsm (s.sm + 1)).k + 1)).cd = s.cd := rfl
          rw [e1, e2] at this
          show s.sm + 1 ≤ y2.sm ∧ y2.cd.length + 2 * s.sm ≤ s.cd.length + 2 * y2.sm
          omega
      split at h
      · have := Gr_brn (Gr_stmt f) (fun e => jstmt_er) h
        rw [hs, hc] at this
        unfold Gr
        omega
      split at h
      · exact fin _ (Gs_xpc (Gs_let (Gs_adv hself))) h
      split at h
      · exact fin _ (Gs_xpc (Gs_yld (Gs_adv hself))) h
      · exact fin _ (Gs_xpc (Gs_smp hself)) h
theorem RX.tight {tx : List Nat} {m : Nat} {I0 : Nat → Nat → Int32} {L0 : Nat → Nat → Int64} {u0 : JU} {b : Nat} {st : List Fm} {I : Nat → Nat → Int32} {L : Nat → Nat → Int64} {s : JSt} {b' : Nat} (h : RX tx m I0 L0 u0 b st (.ok s) I L) (hc : s.cd.length ≤ b') (hb : b' ≤ 600) : RX tx m I0 L0 u0 b' st (.ok s) I L := ⟨h.1, h.2.1, h.2.2.1, hb, h.ok, hc⟩
