theorem RU.ar {s : JSt} {c : Nat} {I : Nat → Nat → Int32} {L : Nat → Nat → Int64} (h : RU true 0 s I L) (hl : s.ars.length < 20) : RU true 1 (s.wars (s.ars ++ [c])) I L := by
  obtain ⟨a, b, ⟨c1, c2, c3, c4⟩, d, f1, f2, f3, f4, f5, f6, f7⟩ := h
  have he : (s.wars (s.ars ++ [c])).ars = s.ars ++ [c] := rfl
  have hl2 : (s.wars (s.ars ++ [c])).ars.length - 1 = s.ars.length := by rw [he, List.length_append]; simp
  refine ⟨a, b, ⟨?_, ?_, ?_, fun j hj => ?_⟩, d, f1, f2, f3, ?_, ?_, fun q => absurd q (by decide), f7⟩
  · rw [hl2]; exact c1
  · rw [he, List.length_append]; simp
  · rw [he, List.length_append]; simp; omega
  · rw [hl2] at hj
    rw [he, List.getD_eq_getElem?_getD, List.getElem?_append_left hj, ← List.getD_eq_getElem?_getD]
    exact c4 j hj
  · rw [hl2]; exact f4
  · rw [hl2]; exact f5
theorem RU.df {s : JSt} {v : Int32} {I : Nat → Nat → Int32} {L : Nat → Nat → Int64} (h : RU true 1 s I L) : RU true 1 (s.wdfl v) (m_up I 30 27 v) L := by
  obtain ⟨⟨a1, a2, a3⟩, b, ⟨c1, c2, c3, c4⟩, ⟨d1, d2, d3⟩, f1, f2, f3, f4, f5, f6, f7⟩ := h
  have hF : Fr (fun p q => p == 30 && q == 27) I (m_up I 30 27 v) := Fr.rf.up rfl
  refine ⟨⟨?_, a2, fun e y hy => ?_⟩, fun w => ?_, ⟨?_, c2, c3, fun j hj => ?_⟩, ⟨?_, d2, fun j y hy => ?_⟩, ?_, ?_, f3, ?_, f5, fun q1 q2 => absurd q1 (by decide), f7⟩
  · rw [hF 30 12 rfl]; exact a1
  · rw [hF 34 e rfl]; exact a3 e y hy
  · rw [hF 30 16 rfl, hF 30 17 rfl, hF 30 18 rfl]; exact b w
  · rw [hF 30 19 rfl]; exact c1
  · rw [hF 36 j rfl]; exact c4 j hj
  · rw [hF 30 21 rfl]; exact d1
  · rw [hF 37 j rfl, hF 38 j rfl, hF 40 j rfl]; exact d3 j y hy
  · simp [m_upr]; rfl
  · rw [hF 30 28 rfl]; exact f2
  · rw [hF 30 29 rfl]; exact f4
/-- what stands of the unit behind : or -> -/
theorem RU.oa {s : JSt} {o : Int32} {I J : Nat → Nat → Int32} {L : Nat → Nat → Int64} (h : RU true 1 s I L) (ho : o = 0 ∨ o = 1) (hF : Fr (fun p q => (p == 30 && (q == 19 || q == 28 || q == 29)) || (p == 36 && q == s.ars.length - 1)) I J) (h19 : J 30 19 = nI s.ars.length) (h28 : J 30 28 = o) (h29 : J 30 29 = if o = 0 then 1 else 0) (h36 : J 36 (s.ars.length - 1) = nI (s.ars.getD (s.ars.length - 1) 0)) {M : Nat → Nat → Int32} {L' : Nat → Nat → Int64} (hM : Fr S_st J M) (hL : Fr S_stL L L') {N : Nat → Nat → Int32} (hN : Fr (fun p q => (p == 30 && (q == 46 || q == 44 || q == 45 || q == 33)) || (41 ≤ p && p ≤ 43)) M N) (z : JSt) (hu : z.u = (s.wold o).u) (hz46 : o = 1 → N 30 46 = if z.set = -1 then 0 else 1) (hzn : o = 0 → z.nm = []) : RU true 0 z N L' := by
  obtain ⟨⟨a1, a2, a3⟩, b, ⟨c1, c2, c3, c4⟩, ⟨d1, d2, d3⟩, f1, f2, f3, f4, f5, f6, f7⟩ := h
  have e1 : z.ens = s.ens := by unfold JSt.ens; rw [hu]; rfl
  have e2 : z.val = s.val := by unfold JSt.val; rw [hu]; rfl
  have e3 : z.srt = s.srt := by unfold JSt.srt; rw [hu]; rfl
  have e4 : z.chs = s.chs := by unfold JSt.chs; rw [hu]; rfl
  have e5 : z.cns = s.cns := by unfold JSt.cns; rw [hu]; rfl
  have e6 : z.dfl = s.dfl := by unfold JSt.dfl; rw [hu]; rfl
  have e7 : z.old = o := by unfold JSt.old; rw [hu]; rfl
  have e8 : z.ars = s.ars := by unfold JSt.ars; rw [hu]; rfl
  have e9 : z.lbs = s.lbs := by unfold JSt.lbs; rw [hu]; rfl
  have e10 : ccs z = ccs s := by unfold ccs; rw [e1, e4]
  have t : ∀ p q, S_st p q = false → ((p == 30 && (q == 46 || q == 44 || q == 45 || q == 33)) || (41 ≤ p && p ≤ 43)) = false → N p q = J p q := fun p q x1 x2 => (hN p q x2).trans (hM p q x1)
  refine ⟨⟨?_, ?_, fun e x hx => ?_⟩, fun q => ?_, ⟨?_, ?_, ?_, fun j hj => ?_⟩, ⟨?_, ?_, fun j x hx => ?_⟩, ?_, ?_, ?_, ?_, ?_, fun q1 q2 => ?_, fun q => ?_⟩
  · rw [e1, t 30 12 rfl rfl, hF 30 12 rfl]; exact a1
  · rw [e1]; exact a2
  · rw [e1] at hx
    obtain ⟨z1, z2, z3, z4, z5, z6⟩ := a3 e x hx
    exact ⟨by rw [hL 33 e rfl]; exact z1, z2, by rw [t 34 e rfl rfl, hF 34 e rfl]; exact z3, z4, fun j hj => by rw [hL 35 _ rfl]; exact z5 j hj, z6⟩
  · obtain ⟨z1, z2, z3, z4, z5⟩ := b q
    refine ⟨by rw [t 30 16 rfl rfl, hF 30 16 rfl, e2]; exact z1, by rw [e2]; exact z2, by rw [t 30 17 rfl rfl, hF 30 17 rfl, e3]; exact z3, by rw [e3]; exact z4, fun w => ?_⟩
    rw [e3] at w
    rw [e1, e4, e5, e10, t 30 18 rfl rfl, hF 30 18 rfl]
    exact z5 w
  · rw [e8, t 30 19 rfl rfl]; exact h19
  · exact Nat.zero_le _
  · rw [e8]; exact c3
  · rw [e8] at hj ⊢
    rw [t 36 j rfl rfl]
    by_cases g : j = s.ars.length - 1
    · rw [g]; exact h36
    · rw [hF 36 j (by simp; exact g)]
      exact c4 j (by omega)
  · rw [e9, t 30 21 rfl rfl, hF 30 21 rfl]; exact d1
  · rw [e9]; exact d2
  · rw [e9] at hx
    obtain ⟨z1, z2, z3⟩ := d3 j x hx
    refine ⟨by rw [t 37 j rfl rfl, hF 37 j rfl]; exact z1, by rw [t 38 j rfl rfl, hF 38 j rfl]; exact z2, fun w => ?_⟩
    rw [e3] at w
    rw [hL 39 j rfl, t 40 j rfl rfl, hF 40 j rfl]
    exact z3 w
  · rw [t 30 27 rfl rfl, hF 30 27 rfl, e6]; exact f1
  · rw [t 30 28 rfl rfl, e7]; exact h28
  · rw [e7]; exact ho
  · rw [t 30 29 rfl rfl, e8, e7, if_neg (by omega)]; exact h29
  · rw [e8]; intro q; omega
  · rw [e7] at q2
    rw [hz46 (ho.resolve_left q2)]
  · rw [e7] at q
    exact hzn q
theorem RU.a36 {s : JSt} {v : Int32} {I : Nat → Nat → Int32} {L : Nat → Nat → Int64} (h : RU true 1 s I L) : RU true 1 s (m_up I 36 (s.ars.length - 1) v) L := by
  obtain ⟨⟨a1, a2, a3⟩, b, ⟨c1, c2, c3, c4⟩, ⟨d1, d2, d3⟩, f1, f2, f3, f4, f5, f6, f7⟩ := h
  have hF : Fr (fun p q => p == 36 && q == s.ars.length - 1) I (m_up I 36 (s.ars.length - 1) v) := Fr.rf.up (by simp)
  refine ⟨⟨?_, a2, fun e y hy => ?_⟩, fun w => ?_, ⟨?_, c2, c3, fun j hj => ?_⟩, ⟨?_, d2, fun j y hy => ?_⟩, ?_, ?_, f3, ?_, f5, fun q1 q2 => absurd q1 (by decide), f7⟩
  · rw [hF 30 12 rfl]; exact a1
  · rw [hF 34 e rfl]; exact a3 e y hy
  · rw [hF 30 16 rfl, hF 30 17 rfl, hF 30 18 rfl]; exact b w
  · rw [hF 30 19 rfl]; exact c1
  · rw [hF 36 j (by simp; omega)]; exact c4 j hj
  · rw [hF 30 21 rfl]; exact d1
  · rw [hF 37 j rfl, hF 38 j rfl, hF 40 j rfl]; exact d3 j y hy
  · rw [hF 30 27 rfl]; exact f1
  · rw [hF 30 28 rfl]; exact f2
  · rw [hF 30 29 rfl]; exact f4
