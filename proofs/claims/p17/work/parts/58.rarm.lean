/-! ===== the reference reads an arm ===== -/
theorem jlb2_ok {tx : List Nat} {j : Nat} {x : Int32} {cs : List Nat} {s s' : JSt} (h : jlb2 tx j x cs s = .ok s') : s' = (s.wlbs (s.lbs ++ [(s.ars.length - 1, x, cs)])).wk (s.k + 1) := by
  unfold jlb2 at h
  by_cases c1 : jdup s x cs = true
  · rw [if_pos c1] at h; cases h
  rw [if_neg c1] at h
  by_cases c2 : 32 ≤ s.lbs.length
  · rw [if_pos c2] at h; cases h
  rw [if_neg c2] at h
  cases h
  rfl
theorem jlab_ok {tx : List Nat} {w : Bool} {s s' : JSt} (h : jlab tx w (.ok s) = .ok s') : ∃ x cs k, s' = (s.wlbs (s.lbs ++ [(s.ars.length - 1, x, cs)])).wk k := by
  have hj : jlab tx w (.ok s) = if (tk tx s.k).1 = 25 then
    (if ¬ s.srt = 0 then jfal tx 5 (.ok s)
     else if (tk tx (s.k + 1)).1 = 17 then jlb2 tx s.k (-(nI (tk tx (s.k + 1)).2.2.2.1)) [] (s.wk (s.k + 1))
     else if w = true ∧ 32 ≤ s.lbs.length then jfal tx 12 (.ok s)
     else jfal tx 2 (.ok (s.wk (s.k + 1))))
  else if (tk tx s.k).1 = 17 then (if s.srt = 0 then jlb2 tx s.k (nI (tk tx s.k).2.2.2.1) [] s else jfal tx 5 (.ok s))
  else if (tk tx s.k).1 = 18 then (if s.srt = 1 then jlb2 tx s.k (jhs (jnam tx s)) (jnam tx s) s else jfal tx 5 (.ok s))
  else if (tk tx s.k).1 = 16 then (if s.srt = 2 ∧ jnam tx s ∈ ccs s then jlb2 tx s.k (nI ((ccs s).idxOf (jnam tx s))) [] s else jfal tx 5 (.ok s))
  else jfal tx 2 (.ok s) := rfl
  rw [hj] at h
  by_cases g25 : (tk tx s.k).1 = 25
  · rw [if_pos g25] at h
    by_cases g0 : ¬ s.srt = 0
    · rw [if_pos g0] at h; cases h
    rw [if_neg g0] at h
    by_cases g17 : (tk tx (s.k + 1)).1 = 17
    · rw [if_pos g17] at h
      have := jlb2_ok h
      exact ⟨_, _, _, this⟩
    rw [if_neg g17] at h
    by_cases gw : w = true ∧ 32 ≤ s.lbs.length
    · rw [if_pos gw] at h; cases h
    · rw [if_neg gw] at h; cases h
  rw [if_neg g25] at h
  by_cases g17 : (tk tx s.k).1 = 17
  · rw [if_pos g17] at h
    by_cases g0 : s.srt = 0
    · rw [if_pos g0] at h
      exact ⟨_, _, _, jlb2_ok h⟩
    · rw [if_neg g0] at h; cases h
  rw [if_neg g17] at h
  by_cases g18 : (tk tx s.k).1 = 18
  · rw [if_pos g18] at h
    by_cases g0 : s.srt = 1
    · rw [if_pos g0] at h
      exact ⟨_, _, _, jlb2_ok h⟩
    · rw [if_neg g0] at h; cases h
  rw [if_neg g18] at h
  by_cases g16 : (tk tx s.k).1 = 16
  · rw [if_pos g16] at h
    by_cases g0 : s.srt = 2 ∧ jnam tx s ∈ ccs s
    · rw [if_pos g0] at h
      exact ⟨_, _, _, jlb2_ok h⟩
    · rw [if_neg g0] at h; cases h
  rw [if_neg g16] at h
  cases h
theorem jlab_er {tx : List Nat} {w : Bool} {e : Nat × Nat} : jlab tx w (.error e) = .error e := rfl
theorem jllp_er {tx : List Nat} {w : Bool} {e : Nat × Nat} : ∀ i, jllp tx w i (.error e) = .error e
  | 0 => rfl
  | i + 1 => by
    unfold jllp
    exact if_neg (show ¬ (0 = 23) by decide)
theorem jllp_ok {tx : List Nat} {w : Bool} : ∀ (i : Nat) (s s' : JSt), jllp tx w i (.ok s) = .ok s' → ∃ l k, s' = (s.wlbs l).wk k
  | 0, s, s', h => by cases h; exact ⟨s.lbs, s.k, rfl⟩
  | i + 1, s, s', h => by
    unfold jllp at h
    split at h
    · cases hz : jlab tx w (jadv (.ok s)) with
      | error e => rw [hz, jllp_er] at h; cases h
      | ok q =>
        rw [hz] at h
        obtain ⟨x, cs, k, e⟩ := jlab_ok (s := s.wk (s.k + 1)) hz
        obtain ⟨l, k2, e2⟩ := jllp_ok i q s' h
        rw [e] at e2
        exact ⟨l, k2, e2⟩
    · cases h; exact ⟨s.lbs, s.k, rfl⟩
theorem jlbs_ok {tx : List Nat} {w : Bool} {s s' : JSt} (h : jlbs tx w (.ok s) = .ok s') : ∃ l k, s' = (s.wlbs l).wk k := by
  unfold jlbs at h
  cases hz : jlab tx w (.ok s) with
  | error e => rw [hz, jllp_er] at h; cases h
  | ok q =>
    rw [hz] at h
    obtain ⟨x, cs, k, e⟩ := jlab_ok hz
    obtain ⟨l, k2, e2⟩ := jllp_ok _ _ _ h
    rw [e] at e2
    exact ⟨l, k2, e2⟩
/-! names behind a body -/
def Nn (r : JRs) : Prop := ∀ s, r = .ok s → s.nm = []
theorem Nn_ok {s : JSt} (h : s.nm = []) : Nn (.ok s) := fun q e => by cases e; exact h
theorem Nn_f {tx : List Nat} {n : Nat} {r : JRs} : Nn (jfal tx n r) := fun q e => by cases r <;> cases e
theorem Nn_adv {r : JRs} (h : Nn r) : Nn (jadv r) := fun q e => by
  cases r with
  | error _ => cases e
  | ok z => cases e; exact h z rfl
theorem Nn_xpc {tx : List Nat} {k : Nat} {r : JRs} (h : Nn r) : Nn (jxpc tx k r) := fun q e => by
  obtain ⟨z, rfl, rfl, -⟩ := jxpc_ok e
  exact h z rfl
theorem Nn_nmb {tx : List Nat} {r : JRs} (h : Nn r) : Nn (jnmb tx r) := fun q e => by
  obtain ⟨z, rfl, rfl, -⟩ := jnmb_ok e
  exact h z rfl
theorem Nn_emt {k x y : Int32} {r : JRs} (h : Nn r) : Nn (jemt k x y r) := fun q e => by
  obtain ⟨z, rfl, e | e⟩ := jemt_ok e
  · subst e; exact h z rfl
  · subst e; exact h q rfl
theorem Nn_sst {x : Int32} {r : JRs} (h : Nn r) : Nn (jsst x r) := fun q e => by
  cases r with
  | error _ => cases e
  | ok z => cases e; exact h z rfl
theorem Nn_stn {x y : Int32} {r : JRs} (h : Nn r) : Nn (jstn x y r) := fun q e => by
  unfold jstn at e
  have h1 := Nn_emt (k := 2) (x := x) (y := y) h
  cases hz : jemt 2 x y r with
  | error _ => rw [hz] at e; cases e
  | ok z => rw [hz] at e; cases e; exact h1 z hz
theorem Nn_smp {tx : List Nat} {r : JRs} (h : Nn r) : Nn (jsmp tx r) := by
  unfold jsmp
  repeat' split
  · exact Nn_emt (Nn_nmb (Nn_adv h))
  · have h2 := Nn_adv h
    generalize jadv r = r2 at h2
    cases r2 with
    | error e => exact fun q e => by cases e
    | ok q =>
      have hj : juse tx (.ok q) = if ¬ (tk tx q.k).1 = 16 then jfal tx 2 (.ok q) else if ¬ jbit (jfnd tx (.ok q)) q.set then jfal tx 7 (.ok q) else jadv (jemt 1 (jfnd tx (.ok q)) 0 (.ok q)) := rfl
      rw [hj]
      split
      · exact Nn_f
      split
      · exact Nn_f
      · exact Nn_adv (Nn_emt h2)
  · exact Nn_stn (Nn_nmb (Nn_xpc (Nn_adv h)))
  · exact Nn_sst (Nn_emt (Nn_adv h))
  · exact Nn_sst (Nn_emt (Nn_nmb (Nn_adv h)))
theorem Nn_opn {tx : List Nat} {d : Nat} {r : JRs} (h : Nn r) : Nn (jopn tx d r) := fun q e => by
  obtain ⟨z, rfl, rfl, -⟩ := jopn_ok e
  exact h z rfl
theorem Nn_bdy {tx : List Nat} {s : JSt} (h : s.nm = []) : Nn (jbdy tx s) := by
  unfold jbdy
  have ho : Nn (jopn tx 0 (.ok s)) := Nn_opn (Nn_ok h)
  by_cases g19 : (tk tx s.k).1 = 19
  · rw [if_pos g19]
    intro q e
    cases hz : jopn tx 0 (.ok s) with
    | error _ => rw [hz] at e; cases e
    | ok s2 =>
      rw [hz] at e
      simp only [jb] at e
      unfold jbbk at e
      cases hl : jloop tx (jstmt tx 10) 121 (.ok (s2.wk (s2.k + 1))) with
      | error _ => rw [hl] at e; cases e
      | ok y =>
        rw [hl] at e
        simp only [jb] at e
        by_cases g20 : (tk tx y.k).1 = 20
        · rw [if_pos g20] at e
          by_cases g10 : ¬ y.val = 0 ∧ ¬ y.set = -1
          · rw [if_pos g10] at e; cases e
          · rw [if_neg g10] at e
            cases e
            rfl
        · rw [if_neg g20] at e; cases e
  rw [if_neg g19]
  by_cases gy : ¬ s.val = 0 ∧ ((tk tx s.k).1 = 25 ∨ (tk tx s.k).1 = 17)
  · rw [if_pos gy]
    refine Nn_sst (Nn_emt (Nn_xpc ?_))
    unfold jsgn
    split
    · exact Nn_nmb (Nn_adv ho)
    · exact Nn_nmb ho
  rw [if_neg gy]
  by_cases gs : (if s.val = 0 then ((tk tx s.k).1 = 16 ∨ (tk tx s.k).1 = 8 ∨ (tk tx s.k).1 = 10 ∨ (tk tx s.k).1 = 11 ∨ (tk tx s.k).1 = 13) else (tk tx s.k).1 = 13)
  · rw [if_pos gs]
    intro q e
    cases hz : jopn tx 0 (.ok s) with
    | error _ => rw [hz] at e; cases e
    | ok s2 =>
      rw [hz] at e
      exact Nn_xpc (Nn_smp (Nn_ok (ho s2 hz))) q e
  · rw [if_neg gs]
    exact Nn_f
/-! from the unit's world to the stmts', and back -/
theorem RX.toS {tx : List Nat} {m : Nat} {u0 : JU} {b : Nat} {x y : Int32} {s : JSt} {I : Nat → Nat → Int32} {L : Nat → Nat → Int64} (h : RX tx m I L u0 b [] (.ok ((s.wset x).wu u0)) I L) (hv : I 30 16 = s.val) : RX tx m I L s.u b [] (.ok (s.wset y)) (m_up I 30 36 y) L := by
  have hcdb := h.cdb
  obtain ⟨⟨q1, q2, q3⟩, ⟨b1, b2⟩, ⟨c1, c2, c3⟩, ⟨d1, d2, d3, d4⟩, ⟨e1, e2⟩, ⟨g1, g2, g3, g4, g5⟩⟩ := h.ok
  refine ⟨h.1, ⟨Fr.rf.up rfl, h.2.1.2.up (fun z => absurd z (by decide))⟩, Fr.rf, h.2.2.2.1, ⟨⟨?_, ?_, q3⟩, ⟨?_, b2⟩, ⟨?_, ?_, rfl⟩, ⟨?_, d2, d3, d4⟩, ⟨?_, fun j y hy => ?_⟩, ?_, ?_, g3, g4, trivial⟩, hcdb⟩
  · exact q1.fr (by simp [m_upr]) (by simp [m_upr]) (by simp [m_upr]) (by simp [m_upr]) rfl
  · simp [m_upr]; exact q2
  · simp [m_upr]; exact b1
  · simp [m_upr]; rfl
  · simp [m_upr]; exact hv
  · simp [m_upr]; exact d1
  · simp [m_upr]; exact e1
  · simpa [m_upr] using e2 j y hy
  · simp [m_upr]; simpa using g1
  · simp [m_upr]; exact g2
theorem RX.toB {tx : List Nat} {m : Nat} {u0 : JU} {b : Nat} {x y : Int32} {s : JSt} {I : Nat → Nat → Int32} {L : Nat → Nat → Int64} (h : RX tx m I L u0 b [] (.ok ((s.wset x).wu u0)) I L) (hv : I 30 16 = s.val) (hn : s.nm = []) : RX tx m I L s.u b [] (.ok (s.wset y)) (m_up (m_up I 30 35 0) 30 36 y) L := by
  have h35 : I 30 35 = 0 := by
    have := h.fct.2.2.2.1
    rw [this]
    show nI s.nm.length = 0
    rw [hn]
    rfl
  have e : m_up I 30 35 0 = I := by
    funext p q
    rw [m_upr]
    by_cases g : p = 30
    · subst g
      rw [if_pos rfl]
      by_cases g2 : q = 35
      · subst g2; rw [if_pos rfl, h35]
      · rw [if_neg g2]
    · rw [if_neg g]
  rw [e]
  exact h.toS hv
/-- behind the stmts: nothing is open -/
theorem RX.outS {tx : List Nat} {m : Nat} {I0 : Nat → Nat → Int32} {L0 : Nat → Nat → Int64} {u0 : JU} {b : Nat} {st : List Fm} {x : Int32} {s : JSt} {J : Nat → Nat → Int32} {I : Nat → Nat → Int32} {L : Nat → Nat → Int64} (h : RX tx m I0 L0 u0 b st (.ok (s.wset x)) I L) (hF : Fr (fun p q => p == 30 && (q == 46 || q == 44 || q == 45)) I J) (h44 : J 30 44 = 0) (h45 : J 30 45 = 0) : RX tx m J L u0 b [] (.ok ((s.wset x).wu u0)) J L := by
  have hcdb := h.cdb
  obtain ⟨⟨q1, q2, q3⟩, ⟨b1, b2⟩, ⟨c1, c2, c3⟩, ⟨d1, d2, d3, d4⟩, ⟨e1, e2⟩, ⟨g1, g2, g3, g4, g5⟩⟩ := h.ok
  refine ⟨⟨h.1.1, h.1.2.1, h.1.2.2.1, h.txm.fr hF rfl (fun _ => rfl), h.wdm⟩, ⟨Fr.rf, h.2.1.2.of (fun j => hF 46 j rfl)⟩, Fr.rf, h.2.2.2.1, ⟨⟨?_, ?_, q3⟩, ⟨?_, b2⟩, ⟨?_, ?_, rfl⟩, ⟨?_, d2, d3, d4⟩, ⟨?_, fun j y hy => ?_⟩, h44, h45, by simp, by simp [dep], trivial⟩, hcdb⟩
  · exact q1.fr (hF 30 3 rfl) (hF 30 4 rfl) (hF 30 5 rfl) (hF 30 7 rfl) rfl
  · rw [hF 30 8 rfl]; exact q2
  · rw [hF 30 26 rfl]; exact b1
  · rw [hF 30 36 rfl]; exact c1
  · rw [hF 30 16 rfl, c2]
    show s.u.1.1 = u0.1.1
    rw [show s.u = u0 from c3]
  · rw [hF 30 35 rfl]; exact d1
  · rw [hF 30 33 rfl]; exact e1
  · rw [hF 41 j rfl, hF 42 j rfl, hF 43 j rfl]; exact e2 j y hy
theorem RX.outE {tx : List Nat} {m : Nat} {I0 : Nat → Nat → Int32} {L0 : Nat → Nat → Int64} {u0 : JU} {b : Nat} {st : List Fm} {e : Nat × Nat} {J : Nat → Nat → Int32} {I : Nat → Nat → Int32} {L : Nat → Nat → Int64} (h : RX tx m I0 L0 u0 b st (.error e) I L) (hF : Fr (fun p q => p == 30 && (q == 46 || q == 44 || q == 45)) I J) : RX tx m J L u0 b [] (.error e) J L := by
  obtain ⟨w1, w2, w3, w4, q, w5, w6⟩ := h.er
  exact ⟨⟨h.1.1, h.1.2.1, h.1.2.2.1, h.txm.fr hF rfl (fun _ => rfl), h.wdm⟩, ⟨Fr.rf, h.2.1.2.of (fun j => hF 46 j rfl)⟩, Fr.rf, h.2.2.2.1, w1, w2, by rw [hF 30 8 rfl]; exact w3, by rw [hF 30 9 rfl]; exact w4, q, w5, by rw [hF 30 33 rfl]; exact w6⟩
