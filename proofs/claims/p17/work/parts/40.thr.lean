/-! ===== through: what stands behind a stmt ===== -/
def sled (i : Nat) (s : JSt) : JSt := s.wcd (s.cd.modify i (fun x => (x.1, nI s.cd.length, x.2.2)))
def semt (k a b : Int32) (s : JSt) : JSt := s.wcd (s.cd ++ [(k, a, b)])
def thr (tx : List Nat) : List Fm → JSt → JSt × List Fm
  | [], s => (s, [])
  | x :: r, s => if x.1 = 2 then (if (tk tx s.k).1 = 15 then (((sled x.2.2 (semt 4 0 0 s)).wset x.2.1).wk (s.k + 1), (3, s.set, s.cd.length) :: r) else thr tx r ((sled x.2.2 s).wset (s.set &&& x.2.1)))
    else if x.1 = 3 then thr tx r ((sled x.2.2 s).wset (s.set &&& x.2.1)) else (s, x :: r)
def SetOk (s : JSt) : Prop := s.set = -1 ∨ bitsB s.nm.length s.set
def nth : List Fm → Nat
  | [] => 0
  | x :: r => (if x.1 = 2 then 1 else 0) + nth r
def lst : List Fm → Prop
  | [] => False
  | x :: r => (¬ x.1 = 2 ∧ ¬ x.1 = 3) ∨ lst r
/-- the list on top knows whether one can go on there -/
def Ends (st : List Fm) (s : JSt) (I : Nat → Nat → Int32) : Prop := match st with
  | [] => True
  | x :: r => ¬ x.1 = 2 → ¬ x.1 = 3 → I 46 r.length = if s.set = -1 then 0 else 1
theorem kAt_mod {cd : List (Int32 × Int32 × Int32)} {j i : Nat} {k : Int32} {v : Int32} (h : kAt cd i k) : kAt (cd.modify j (fun x => (x.1, v, x.2.2))) i k := by
  unfold kAt at h ⊢
  rw [List.getElem?_modify]
  cases hx : cd[i]? with
  | none => rw [hx] at h; cases h
  | some x =>
    rw [hx] at h
    by_cases e : j = i
    · simpa [e] using h
    · simpa [e] using h
theorem kAt_app {cd : List (Int32 × Int32 × Int32)} {i : Nat} {k : Int32} {v : Int32 × Int32 × Int32} (h : kAt cd i k) : kAt (cd ++ [v]) i k := by
  unfold kAt at h ⊢
  cases hx : cd[i]? with
  | none => rw [hx] at h; cases h
  | some x =>
    have hi : i < cd.length := by
      by_cases g : i < cd.length
      · exact g
      · rw [List.getElem?_eq_none (by omega)] at hx; cases hx
    rw [List.getElem?_append_left hi]
    exact h
theorem kAt_lt {cd : List (Int32 × Int32 × Int32)} {i : Nat} {k : Int32} (h : kAt cd i k) : i < cd.length := by
  unfold kAt at h
  by_cases g : i < cd.length
  · exact g
  · rw [List.getElem?_eq_none (by omega)] at h; cases h
theorem kAt_some {cd : List (Int32 × Int32 × Int32)} {i : Nat} {k : Int32} (h : kAt cd i k) : ∃ a b, cd[i]? = some (k, a, b) := by
  unfold kAt at h
  cases hx : cd[i]? with
  | none => rw [hx] at h; cases h
  | some x =>
    rw [hx] at h
    obtain ⟨a, b, c⟩ := x
    simp only [Option.map_some, Option.some.injEq] at h
    exact ⟨b, c, by rw [h]⟩
/-- leading a step on -/
theorem RCd.led {s : JSt} {I : Nat → Nat → Int32} {i : Nat} {k : Int32} (h : RCd s I) (hk : kAt s.cd i k) (hk3 : k = 3 ∨ k = 4) : RCd (sled i s) (m_up I 42 i (nI s.cd.length)) := by
  obtain ⟨h1, h2⟩ := h
  have hl : (sled i s).cd = s.cd.modify i (fun x => (x.1, nI s.cd.length, x.2.2)) := rfl
  refine ⟨?_, fun j x hx => ?_⟩
  · rw [hl, List.length_modify]; simpa [m_upr] using h1
  · rw [hl, List.getElem?_modify] at hx
    by_cases e : i = j
    · subst e
      obtain ⟨a, b, hab⟩ := kAt_some hk
      rw [hab] at hx
      simp only [if_true] at hx
      have hx : some (k, nI s.cd.length, b) = some x := hx
      have hx := Option.some.inj hx
      have h3 := h2 i _ hab
      subst hx
      rcases hk3 with g | g
      · subst g
        simp only [mcd] at h3 ⊢
        simp at h3 ⊢
        simp [m_upr, h3]
      · subst g
        simp only [mcd] at h3 ⊢
        simp at h3 ⊢
        simp [m_upr, h3]
    · simp only [e, if_false] at hx
      have h3 := h2 j x (by simpa using hx)
      have e2 : ¬ j = i := fun z => e z.symm
      simpa [m_upr, e2] using h3
theorem RCd.emt {s : JSt} {I : Nat → Nat → Int32} {k a b ka kb kc : Int32} (h : RCd s I) (hl : s.cd.length < 2 ^ 31) (he : mcd (k, a, b) = (ka, kb, kc)) : RCd (semt k a b s) (emF ka kb kc I) := by
  obtain ⟨h1, h2⟩ := h
  have hcd : (semt k a b s).cd = s.cd ++ [(k, a, b)] := rfl
  unfold emF
  rw [h1, nI_clamp hl]
  refine ⟨?_, fun j x hx => ?_⟩
  · rw [hcd, List.length_append]; simp [m_upr, nI_1]
  · rw [hcd] at hx
    by_cases g : j < s.cd.length
    · rw [List.getElem?_append_left g] at hx
      have g2 : ¬ j = s.cd.length := by omega
      simpa [m_upr, g2] using h2 j x hx
    · by_cases g2 : j = s.cd.length
      · subst g2
        simp at hx
        subst hx
        rw [he]
        simp [m_upr]
      · rw [List.getElem?_eq_none (by rw [List.length_append]; simp; omega)] at hx
        cases hx
theorem RX.fct {tx : List Nat} {m : Nat} {I0 : Nat → Nat → Int32} {L0 : Nat → Nat → Int64} {u0 : JU} {b : Nat} {st : List Fm} {I : Nat → Nat → Int32} {L : Nat → Nat → Int64} {s : JSt} (h : RX tx m I0 L0 u0 b st (.ok s) I L) : I 30 44 = nI st.length ∧ I 30 36 = s.set ∧ I 30 33 = nI s.cd.length ∧ I 30 35 = nI s.nm.length ∧ s.nm.length ≤ 20 ∧ st.length ≤ 20 := by
  obtain ⟨-, -, ⟨c1, c2, c3⟩, ⟨d1, d2, -⟩, ⟨e1, e2⟩, f1, f2, f3, f4, f5⟩ := h.ok
  exact ⟨f1, c1, e1, d1, d2, f3⟩
theorem FrS_low : ∀ (q : List Fm) (c : Nat) (J J' : Nat → Nat → Int32) (cd : List (Int32 × Int32 × Int32)), (∀ p j, 45 ≤ p → p ≤ 51 → j < q.length → J' p j = J p j) → FrS J cd c q → FrS J' cd c q
  | [], _, _, _, _, _, _ => trivial
  | y :: q, c, J, J', cd, hJ, hq => by
    obtain ⟨z1, z2, z3, z4, z5⟩ := hq
    have hq : q.length < (y :: q).length := by simp
    refine ⟨?_, ?_, ?_, ?_, FrS_low q _ _ _ _ (fun p j h1 h2 h3 => hJ p j h1 h2 (by simp; omega)) z5⟩
    · rw [hJ 45 _ (by decide) (by decide) hq]; exact z1
    · rw [hJ 47 _ (by decide) (by decide) hq]; exact z2
    · rw [hJ 48 _ (by decide) (by decide) hq, hJ 50 _ (by decide) (by decide) hq]; exact z3
    · rw [hJ 49 _ (by decide) (by decide) hq, hJ 51 _ (by decide) (by decide) hq, hJ 46 _ (by decide) (by decide) hq]; exact z4
theorem nth_cons {x : Fm} {r : List Fm} : nth (x :: r) = (if x.1 = 2 then 1 else 0) + nth r := rfl
theorem dep_cons {x : Fm} {r : List Fm} : dep (x :: r) = (if x.1 = 1 ∨ x.1 = 2 ∨ x.1 = 3 then 1 else 0) + dep r := rfl
theorem dep_le {x : Fm} {r : List Fm} : dep r ≤ dep (x :: r) := by
  rw [dep_cons]
  omega
theorem RX.popn {tx : List Nat} {m : Nat} {I0 : Nat → Nat → Int32} {L0 : Nat → Nat → Int64} {u0 : JU} {b : Nat} {I : Nat → Nat → Int32} {L : Nat → Nat → Int64} {s : JSt} {x : Fm} {r : List Fm} {k : Int32} {v : Int32} (h : RX tx m I0 L0 u0 b (x :: r) (.ok s) I L) (hx : x.1 = 2 ∨ x.1 = 3) (hk : kAt s.cd x.2.2 k) (hk3 : k = 3 ∨ k = 4) :
    RX tx m I0 L0 u0 b r (.ok ((sled x.2.2 s).wset v)) (popF (m_up (m_up I 42 x.2.2 (nI s.cd.length)) 30 36 v)) L := by
  obtain ⟨f44, f36, f33, f35, fn, fst⟩ := h.fct
  have hlen : (x :: r).length = r.length + 1 := rfl
  have hcdb := h.cdb
  obtain ⟨⟨q1, q2, q3⟩, ⟨b1, b2⟩, ⟨c1, c2, c3⟩, ⟨d1, d2, d3, d4⟩, e, ⟨g1, g2, g3, g4, ⟨a1, a2, a3, a4, a5⟩⟩⟩ := h.ok
  have fi : I 30 44 - 1 = nI r.length := by
    rw [f44, hlen, show (1 : Int32) = nI 1 from rfl, sub_nI (by omega)]
    rfl
  have hp : popF (m_up (m_up I 42 x.2.2 (nI s.cd.length)) 30 36 v) = m_up (m_up (m_up (m_up I 42 x.2.2 (nI s.cd.length)) 30 36 v) 30 44 (nI r.length)) 30 45 (nI (dep r)) := by
    unfold popF
    have e1 : m_up (m_up I 42 x.2.2 (nI s.cd.length)) 30 36 v 30 44 = I 30 44 := by simp [m_upr]
    have e2 : m_up (m_up I 42 x.2.2 (nI s.cd.length)) 30 36 v 30 45 = nI (dep (x :: r)) := by simp [m_upr, g2]
    have e3 : m_up (m_up I 42 x.2.2 (nI s.cd.length)) 30 36 v 45 r.length = nI x.1 := by simp [m_upr, a1.2]
    rw [e1, fi, nI_clamp (by omega), e2, e3]
    congr 1
    have hd : dep (x :: r) = dep r + 1 := by
      rw [dep_cons, if_pos (by omega)]
      omega
    rw [hd] at g4 ⊢
    rcases hx with g | g
    · rw [g, if_neg (by decide), if_pos (by decide), show (1 : Int32) = nI 1 from rfl, sub_nI (by omega)]; rfl
    · rw [g, if_neg (by decide), if_neg (by decide), if_pos (by decide), show (1 : Int32) = nI 1 from rfl, sub_nI (by omega)]; rfl
  rw [hp]
  have hcd : ((sled x.2.2 s).wset v).cd = s.cd.modify x.2.2 (fun y => (y.1, nI s.cd.length, y.2.2)) := rfl
  refine h.mk ((((Fr.rf.up rfl).up rfl).up rfl).up rfl) Fr.rf h.2.2.2.1 ⟨⟨⟨?_, ?_, q3⟩, ⟨?_, b2⟩, ⟨?_, ?_, c3⟩, ⟨?_, d2, d3, d4⟩, ?_, ?_, ?_, by omega, by have := dep_le (x := x) (r := r); omega, ?_⟩, ?_⟩
  · exact q1.fr (by simp [m_upr]) (by simp [m_upr]) (by simp [m_upr]) (by simp [m_upr]) rfl
  · simp [m_upr]; exact q2
  · simp [m_upr]; exact b1
  · simp [m_upr]; rfl
  · simp [m_upr]; exact c2
  · simp [m_upr]; exact d1
  · have := e.led hk hk3
    unfold RCd at this ⊢
    refine ⟨by have h7 := this.1; simp [m_upr] at h7 ⊢; exact h7, fun j y hy => ?_⟩
    simpa [m_upr] using this.2 j y hy
  · simp [m_upr]
  · simp [m_upr]
  · rw [if_neg (by omega)] at a5
    refine FrS.mono (fun i k hq => by rw [hcd]; exact kAt_mod hq) r _ _ (Nat.le_refl _) (FrS.fr (fun p j h1 h2 => ?_) r _ a5)
    have : ¬ p = 30 := by omega
    have : ¬ p = 42 := by omega
    simp [m_upr, *]
  · rw [hcd, List.length_modify]; exact hcdb
theorem RX.elsn {tx : List Nat} {m : Nat} {I0 : Nat → Nat → Int32} {L0 : Nat → Nat → Int64} {u0 : JU} {b : Nat} {I : Nat → Nat → Int32} {L : Nat → Nat → Int64} {s : JSt} {x : Fm} {r : List Fm} {can : Int32} (h : RX tx m I0 L0 u0 b (x :: r) (.ok s) I L) (hb : b + 1 ≤ 600) (hs : SetOk s) (hx : x.1 = 2) (hk : kAt s.cd x.2.2 3) (hcan : can = if s.set = -1 then 0 else 1) :
    RX tx m I0 L0 u0 (b + 1) ((3, s.set, s.cd.length) :: r) (.ok ((sled x.2.2 (semt 4 0 0 s)).wset x.2.1)) (m_up (m_up (m_up (m_up (emF 7 0 0 (m_up (m_up I 46 r.length can) 49 r.length s.set)) 51 r.length (nI s.cd.length)) 42 x.2.2 (nI (s.cd.length + 1))) 30 36 x.2.1) 45 r.length 3) L := by
  obtain ⟨f44, f36, f33, f35, fn, fst⟩ := h.fct
  have hlen : (x :: r).length = r.length + 1 := rfl
  have hcdb := h.cdb
  have hb6 := h.2.2.2.1
  obtain ⟨⟨q1, q2, q3⟩, ⟨b1, b2⟩, ⟨c1, c2, c3⟩, ⟨d1, d2, d3, d4⟩, e, ⟨g1, g2, g3, g4, ⟨a1, a2, a3, a4, a5⟩⟩⟩ := h.ok
  have e0 : RCd s (m_up (m_up I 46 r.length can) 49 r.length s.set) := by
    unfold RCd at e ⊢
    refine ⟨by simpa [m_upr] using e.1, fun j y hy => ?_⟩
    simpa [m_upr] using e.2 j y hy
  have e1 := e0.emt (k := 4) (a := 0) (b := 0) (ka := 7) (kb := 0) (kc := 0) (by omega) rfl
  have e2 : RCd (semt 4 0 0 s) (m_up (emF 7 0 0 (m_up (m_up I 46 r.length can) 49 r.length s.set)) 51 r.length (nI s.cd.length)) := by
    unfold RCd at e1 ⊢
    refine ⟨by simpa [m_upr] using e1.1, fun j y hy => ?_⟩
    simpa [m_upr] using e1.2 j y hy
  have hk' : kAt (semt 4 0 0 s).cd x.2.2 3 := kAt_app hk
  have e3 := e2.led hk' (Or.inl rfl)
  have hl1 : (semt 4 0 0 s).cd.length = s.cd.length + 1 := by
    show (s.cd ++ [_]).length = _
    rw [List.length_append]; rfl
  rw [hl1] at e3
  have hcd : ((sled x.2.2 (semt 4 0 0 s)).wset x.2.1).cd = (s.cd ++ [(4, 0, 0)]).modify x.2.2 (fun y => (y.1, nI (s.cd ++ [(4, 0, 0)]).length, y.2.2)) := rfl
  have hF : Fr S_st I (m_up (m_up (m_up (m_up (emF 7 0 0 (m_up (m_up I 46 r.length can) 49 r.length s.set)) 51 r.length (nI s.cd.length)) 42 x.2.2 (nI (s.cd.length + 1))) 30 36 x.2.1) 45 r.length 3) := by
    unfold emF
    exact (((((((((Fr.rf.up rfl).up rfl).up rfl).up rfl).up rfl).up rfl).up rfl).up rfl).up rfl).up rfl
  refine h.mk hF Fr.rf hb ⟨⟨⟨?_, ?_, q3⟩, ⟨?_, b2⟩, ⟨?_, ?_, c3⟩, ⟨?_, d2, d3, d4⟩, ?_, ?_, ?_, by exact g3, ?_, ?_⟩, ?_⟩ (fun h => by unfold emF; exact (((((((((h.up (fun _ => by rw [hcan]; split; exact Or.inl rfl; exact Or.inr rfl)).up (fun z => absurd z (by decide))).up (fun z => absurd z (by decide))).up (fun z => absurd z (by decide))).up (fun z => absurd z (by decide))).up (fun z => absurd z (by decide))).up (fun z => absurd z (by decide))).up (fun z => absurd z (by decide))).up (fun z => absurd z (by decide))).up (fun z => absurd z (by decide)))
  · exact q1.fr (by simp [emF, m_upr]) (by simp [emF, m_upr]) (by simp [emF, m_upr]) (by simp [emF, m_upr]) rfl
  · simp [emF, m_upr]; exact q2
  · simp [emF, m_upr]; exact b1
  · simp [m_upr]; rfl
  · simp [emF, m_upr]; exact c2
  · simp [emF, m_upr]; exact d1
  · unfold RCd at e3 ⊢
    refine ⟨by have h7 := e3.1; simp [m_upr] at h7 ⊢; exact h7, fun j y hy => ?_⟩
    simpa [m_upr] using e3.2 j y hy
  · simp [emF, m_upr]; exact g1
  · have hd : dep (x :: r) = dep ((3, s.set, s.cd.length) :: r) := by
      rw [dep_cons, dep_cons, if_pos (by omega), if_pos (by simp)]
    rw [← hd]
    simp [emF, m_upr]; exact g2
  · have hd : dep (x :: r) = dep ((3, s.set, s.cd.length) :: r) := by
      rw [dep_cons, dep_cons, if_pos (by omega), if_pos (by simp)]
    rw [← hd]
    exact g4
  · refine ⟨⟨by simp, by simp [m_upr]; rfl⟩, fun z => absurd z (by simp), fun z => absurd z (by simp), fun _ => ⟨by simp [emF, m_upr], by simp [m_upr], ?_, hs, by simp [emF, m_upr, hcan]⟩, ?_⟩
    · rw [hcd]
      refine kAt_mod ?_
      unfold kAt
      simp
    · rw [if_neg (by simp)]
      rw [if_neg (by omega)] at a5
      refine FrS.mono (fun i k hq => by rw [hcd]; exact kAt_mod (kAt_app hq)) r _ _ (Nat.le_refl _) (FrS_low r _ I _ s.cd (fun p j h1 h2 h3 => ?_) a5)
      have : ¬ p = 30 := by omega
      have : ¬ p = 41 := by omega
      have : ¬ p = 42 := by omega
      have : ¬ p = 43 := by omega
      have : ¬ j = r.length := by omega
      simp [emF, m_upr, *]
  · rw [hcd, List.length_modify, List.length_append]
    have := hcdb
    simp only [List.length_singleton]
    omega
theorem RX.ends46 {tx : List Nat} {m : Nat} {I0 : Nat → Nat → Int32} {L0 : Nat → Nat → Int64} {u0 : JU} {b : Nat} {I : Nat → Nat → Int32} {L : Nat → Nat → Int64} {s : JSt} {x : Fm} {r : List Fm} {v : Int32} (h : RX tx m I0 L0 u0 b (x :: r) (.ok s) I L) (hb : b + 1 ≤ 600) (hx : ¬ x.1 = 3) (hv : v = 0 ∨ v = 1) : RX tx m I0 L0 u0 (b + 1) (x :: r) (.ok s) (m_up I 46 r.length v) L := by
  have hcdb := h.cdb
  obtain ⟨⟨q1, q2, q3⟩, ⟨b1, b2⟩, ⟨c1, c2, c3⟩, ⟨d1, d2, d3, d4⟩, e, ⟨g1, g2, g3, g4, ⟨a1, a2, a3, a4, a5⟩⟩⟩ := h.ok
  refine h.mk (Fr.rf.up rfl) Fr.rf hb ⟨⟨⟨?_, ?_, q3⟩, ⟨?_, b2⟩, ⟨?_, ?_, c3⟩, ⟨?_, d2, d3, d4⟩, ?_, ?_, ?_, g3, g4, ⟨?_, ?_, ?_, fun z => absurd z hx, ?_⟩⟩, by omega⟩ (fun h => h.up (fun _ => hv))
  · exact q1.fr (by simp [m_upr]) (by simp [m_upr]) (by simp [m_upr]) (by simp [m_upr]) rfl
  · simp [m_upr]; exact q2
  · simp [m_upr]; exact b1
  · simp [m_upr]; exact c1
  · simp [m_upr]; exact c2
  · simp [m_upr]; exact d1
  · unfold RCd at e ⊢
    refine ⟨by simpa [m_upr] using e.1, fun j y hy => ?_⟩
    simpa [m_upr] using e.2 j y hy
  · simp [m_upr]; simpa using g1
  · simp [m_upr]; exact g2
  · simpa [m_upr] using a1
  · simpa [m_upr] using a2
  · simpa [m_upr] using a3
  · refine FrS_low r _ I _ s.cd (fun p j h1 h2 h3 => ?_) a5
    have : ¬ j = r.length := by omega
    simp [m_upr, *]
set_option maxHeartbeats 1000000 in
theorem r_through {XL : Nat} {XS : Nat → Int32} {n : Nat} {C : mC} {I : Nat → Nat → Int32} {L : Nat → Nat → Int64} {K : mK} {tx : List Nat} {m : Nat} {I0 : Nat → Nat → Int32} {L0 : Nat → Nat → Int64} {u0 : JU} {b : Nat} {st : List Fm} {s : JSt} (hC : m_Ge XL XS (n + 4) C) (hX : RX tx m I0 L0 u0 b st (.ok s) I L) (hb : b + 1 ≤ 600) (hs : SetOk s) (hl : lst st) (hn : s.cd.length + nth st ≤ 260)
    (hK : ∀ I' L', RX tx m I0 L0 u0 (b + 1) (thr tx st s).2 (.ok (thr tx st s).1) I' L' → Ends (thr tx st s).2 (thr tx st s).1 I' → SetOk (thr tx st s).1 → K none (m_SH, I', L')) : C 129 [.ref 30, .int (if s.set = -1 then 0 else 1)] (m_SH, I, L) K := by
  refine e_X9_through hC (Nat.le_of_ble_eq_true rfl) ?_
  intro C' hC' P hP
  have loop : ∀ (st : List Fm) (s : JSt) (J : Nat → Nat → Int32) (e0 : Int32) (l4 : Option Value), RX tx m I0 L0 u0 b st (.ok s) J L → SetOk s → lst st → s.cd.length + nth st ≤ 260 → (∀ I' L', RX tx m I0 L0 u0 (b + 1) (thr tx st s).2 (.ok (thr tx st s).1) I' L' → Ends (thr tx st s).2 (thr tx st s).1 I' → SetOk (thr tx st s).1 → K none (m_SH, I', L')) →
      P (4, [some (.ref 30), some (.int e0), some (.int (if s.set = -1 then 0 else 1)), some (.int 1), l4], [], (m_SH, J, L), 0, 0) := by
    intro st
    induction st with
    | nil => intro s J e0 l4 h1 h2 h3; exact h3.elim
    | cons x r ih =>
      intro s J e0 l4 hJ hs hl hn hk
      obtain ⟨f44, f36, f33, f35, fn, fst⟩ := hJ.fct
      have hlen : (x :: r).length = r.length + 1 := rfl
      have fr : r.length < 20 := by omega
      have fi : J 30 44 - 1 = nI r.length := by
        rw [f44, hlen, ← nI_1]
        show nI r.length + 1 - 1 = nI r.length
        rw [nI_1, show (1 : Int32) = nI 1 from rfl, sub_nI (by omega)]
        rfl
      obtain ⟨a1, a2, a3, a4, a5⟩ := hJ.ok.2.2.2.2.2.2.2.2.2
      repeat (refine hP _ ?_; conv => whnf)
      refine ⟨fun z => absurd z (by decide), fun _ => ?_⟩
      repeat (refine hP _ ?_; conv => whnf)
      rw [fi]
      refine ⟨vp_in_nI (by omega) (by omega), ?_⟩
      rw [nI_clamp (by omega), a1.2]
      have hcan : vp_nar .boolean (if s.set = -1 then 0 else 1) = (if s.set = -1 then 0 else 1) := by split <;> rfl
      by_cases g2 : x.1 = 2
      · obtain ⟨t1, t2, t3, t4⟩ := a3 g2
        have hl' : lst r := by
          rcases hl with z | z
          · exact absurd g2 z.1
          · exact z
        have hnn : nth (x :: r) = 1 + nth r := by
          rw [nth_cons, if_pos g2]
        have hact := kAt_lt t3
        repeat (refine hP _ ?_; conv => whnf)
        refine ⟨fun _ => ?_, fun z => absurd (show nI x.1 = 2 by rw [g2]; rfl) z⟩
        repeat (refine hP _ ?_; conv => whnf)
        refine r_isWordX (w := 14) (n := n + 2) hC' hJ (by decide) ?_
        by_cases g15 : (tk tx s.k).1 = 15
        · have ht : thr tx (x :: r) s = (((sled x.2.2 (semt 4 0 0 s)).wset x.2.1).wk (s.k + 1), (3, s.set, s.cd.length) :: r) := by rw [thr, if_pos g2, if_pos g15]
          rw [ht] at hk
          rw [if_pos g15]
          repeat (refine hP _ ?_; conv => whnf)
          refine ⟨fun z => absurd z (by decide), fun _ => ?_⟩
          repeat (refine hP _ ?_; conv => whnf)
          refine ⟨vp_in_nI (by omega) (by omega), ?_⟩
          rw [nI_clamp (by omega), hcan]
          repeat (refine hP _ ?_; conv => whnf)
          refine ⟨vp_in_nI (by omega) (by omega), ?_⟩
          rw [nI_clamp (by omega), show m_up J 46 r.length (if s.set = -1 then 0 else 1) 30 36 = s.set by rw [m_upr, if_neg (by decide)]; exact f36]
          repeat (refine hP _ ?_; conv => whnf)
          refine r_emit (n := n + 2) hC' (by simp [m_upr, f33]; exact vp_in_nI (by omega) (by omega)) ?_
          rw [show m_up (m_up J 46 r.length (if s.set = -1 then 0 else 1)) 49 r.length s.set 30 33 + 1 - 1 = nI s.cd.length by
            simp [m_upr, f33]]
          repeat (refine hP _ ?_; conv => whnf)
          refine ⟨vp_in_nI (by omega) (by omega), ?_⟩
          rw [nI_clamp (by omega)]
          repeat (refine hP _ ?_; conv => whnf)
          refine ⟨vp_in_nI (by omega) (by omega), ?_⟩
          rw [nI_clamp (by omega), show m_up (emF 7 0 0 (m_up (m_up J 46 r.length (if s.set = -1 then 0 else 1)) 49 r.length s.set)) 51 r.length (nI s.cd.length) 50 r.length = nI x.2.2 by simp [emF, m_upr, t2]]
          repeat (refine hP _ ?_; conv => whnf)
          refine ⟨vp_in_nI (by omega) (by omega), ?_⟩
          rw [nI_clamp (by omega), show m_up (emF 7 0 0 (m_up (m_up J 46 r.length (if s.set = -1 then 0 else 1)) 49 r.length s.set)) 51 r.length (nI s.cd.length) 30 33 = nI (s.cd.length + 1) by simp [emF, m_upr, f33, nI_1]]
          repeat (refine hP _ ?_; conv => whnf)
          refine ⟨vp_in_nI (by omega) (by omega), ?_⟩
          rw [nI_clamp (by omega), show m_up (m_up (emF 7 0 0 (m_up (m_up J 46 r.length (if s.set = -1 then 0 else 1)) 49 r.length s.set)) 51 r.length (nI s.cd.length)) 42 x.2.2 (nI (s.cd.length + 1)) 48 r.length = x.2.1 by simp [emF, m_upr, t1]]
          repeat (refine hP _ ?_; conv => whnf)
          refine ⟨vp_in_nI (by omega) (by omega), ?_⟩
          rw [nI_clamp (by omega)]
          repeat (refine hP _ ?_; conv => whnf)
          have hE := hJ.elsn hb hs g2 t3 rfl
          refine r_nextX (n := n) hC' hE (by show (tk tx s.k).1 < 27; omega) (fun I' L' h' => ?_)
          repeat (refine hP _ ?_; conv => whnf)
          exact hk _ _ h' (fun _ z => absurd rfl z) (Or.inr t4)
        · have ht : thr tx (x :: r) s = thr tx r ((sled x.2.2 s).wset (s.set &&& x.2.1)) := by rw [thr, if_pos g2, if_neg g15]
          rw [ht] at hk
          rw [if_neg g15]
          repeat (refine hP _ ?_; conv => whnf)
          refine ⟨fun _ => ?_, fun z => absurd rfl z⟩
          repeat (refine hP _ ?_; conv => whnf)
          refine ⟨vp_in_nI (by omega) (by omega), ?_⟩
          rw [nI_clamp (by omega), a1.2]
          repeat (refine hP _ ?_; conv => whnf)
          refine ⟨fun _ => ?_, fun z => absurd (show nI x.1 = 2 by rw [g2]; rfl) z⟩
          repeat (refine hP _ ?_; conv => whnf)
          refine ⟨vp_in_nI (by omega) (by omega), ?_⟩
          rw [nI_clamp (by omega), t2]
          repeat (refine hP _ ?_; conv => whnf)
          refine ⟨vp_in_nI (by omega) (by omega), ?_⟩
          rw [nI_clamp (by omega), f33]
          repeat (refine hP _ ?_; conv => whnf)
          refine ⟨vp_in_nI (by omega) (by omega), ?_⟩
          rw [nI_clamp (by omega), show m_up J 42 x.2.2 (nI s.cd.length) 48 r.length = x.2.1 by simp [m_upr, t1]]
          have hp := hJ.popn (v := s.set &&& x.2.1) (Or.inl g2) t3 (Or.inl rfl)
          repeat (refine hP _ ?_; conv => whnf)
          rw [show m_up J 42 x.2.2 (nI s.cd.length) 30 36 = s.set by simp [m_upr, f36]]
          refine r_pop (n := n + 2) hC' (by simp [m_upr]; rw [fi]; exact vp_in_nI (by omega) (by omega)) ?_
          iterate 2 (refine hP _ ?_; conv => whnf)
          have hbits : bitsB s.nm.length (s.set &&& x.2.1) := bitsB.and hs t4
          have e := ih ((sled x.2.2 s).wset (s.set &&& x.2.1)) _ e0 (some (.int (nI r.length))) hp (Or.inr hbits) hl' (by show (s.cd.modify _ _).length + nth r ≤ 260; rw [List.length_modify]; omega) hk
          rw [if_neg (show ¬ ((sled x.2.2 s).wset (s.set &&& x.2.1)).set = -1 from hbits.ne fn)] at e
          exact e
      · have hne2 : ¬ nI x.1 = 2 := fun z => g2 ((nI_eq (a := x.1) (b := 2) (by omega) (by omega)).mp z)
        repeat (refine hP _ ?_; conv => whnf)
        refine ⟨fun z => absurd z hne2, fun _ => ?_⟩
        repeat (refine hP _ ?_; conv => whnf)
        refine ⟨vp_in_nI (by omega) (by omega), ?_⟩
        rw [nI_clamp (by omega), a1.2]
        repeat (refine hP _ ?_; conv => whnf)
        refine ⟨fun z => absurd z hne2, fun _ => ?_⟩
        repeat (refine hP _ ?_; conv => whnf)
        refine ⟨vp_in_nI (by omega) (by omega), ?_⟩
        rw [nI_clamp (by omega), a1.2]
        repeat (refine hP _ ?_; conv => whnf)
        by_cases g3 : x.1 = 3
        · obtain ⟨t1, t2, t3, t4, t5⟩ := a4 g3
          have hl' : lst r := by
            rcases hl with z | z
            · exact absurd g3 z.2
            · exact z
          have hnn : nth (x :: r) = 0 + nth r := by
            rw [nth_cons, if_neg g2]
          have hact := kAt_lt t3
          have ht : thr tx (x :: r) s = thr tx r ((sled x.2.2 s).wset (s.set &&& x.2.1)) := by rw [thr, if_neg g2, if_pos g3]
          rw [ht] at hk
          refine ⟨fun _ => ?_, fun z => absurd (show nI x.1 = 3 by rw [g3]; rfl) z⟩
          repeat (refine hP _ ?_; conv => whnf)
          refine ⟨vp_in_nI (by omega) (by omega), ?_⟩
          rw [nI_clamp (by omega), t2]
          repeat (refine hP _ ?_; conv => whnf)
          refine ⟨vp_in_nI (by omega) (by omega), ?_⟩
          rw [nI_clamp (by omega), f33]
          repeat (refine hP _ ?_; conv => whnf)
          refine ⟨vp_in_nI (by omega) (by omega), ?_⟩
          rw [nI_clamp (by omega), show m_up J 42 x.2.2 (nI s.cd.length) 49 r.length = x.2.1 by simp [m_upr, t1]]
          repeat (refine hP _ ?_; conv => whnf)
          rw [show m_up J 42 x.2.2 (nI s.cd.length) 30 36 = s.set by simp [m_upr, f36]]
          have hp := hJ.popn (v := s.set &&& x.2.1) (Or.inr g3) t3 (Or.inr rfl)
          have hset : SetOk ((sled x.2.2 s).wset (s.set &&& x.2.1)) := by
            rcases t4 with z | z
            · show s.set &&& x.2.1 = -1 ∨ bitsB s.nm.length (s.set &&& x.2.1)
              rw [z, i_and_m1]
              exact hs
            · exact Or.inr (bitsB.and hs z)
          have e := ih ((sled x.2.2 s).wset (s.set &&& x.2.1)) _ e0 (some (.int (nI r.length))) hp hset hl' (by show (s.cd.modify _ _).length + nth r ≤ 260; rw [List.length_modify]; omega) hk
          have hset2 : ((sled x.2.2 s).wset (s.set &&& x.2.1)).set = s.set &&& x.2.1 := rfl
          rw [hset2] at e
          have hv : (if s.set &&& x.2.1 = -1 then (0 : Int32) else 1) = if s.set = -1 then (if x.2.1 = -1 then 0 else 1) else 1 := by
            by_cases z : s.set = -1
            · rw [z, i_m1_and, if_pos rfl]
            · rw [if_neg z]
              rcases t4 with y | y
              · rw [y, i_and_m1, if_neg z]
              · rw [if_neg ((bitsB.and hs y).ne fn)]
          have fin : ∀ (can : Int32), can = (if s.set &&& x.2.1 = -1 then 0 else 1) → P (224, [some (.ref 30), some (.int e0), some (.int (if s.set = -1 then 0 else 1)), some (.int 1), some (.int (nI r.length))], [.int can], (m_SH, m_up (m_up J 42 x.2.2 (nI s.cd.length)) 30 36 (s.set &&& x.2.1), L), 0, 0) := by
            intro can hcan
            subst hcan
            repeat (refine hP _ ?_; conv => whnf)
            refine r_pop (n := n + 2) hC' (by simp [m_upr]; rw [fi]; exact vp_in_nI (by omega) (by omega)) ?_
            iterate 2 (refine hP _ ?_; conv => whnf)
            exact e
          refine ⟨fun z => ?_, fun z => ?_⟩
          · repeat (refine hP _ ?_; conv => whnf)
            refine ⟨vp_in_nI (by omega) (by omega), ?_⟩
            rw [nI_clamp (by omega), show m_up (m_up J 42 x.2.2 (nI s.cd.length)) 30 36 (s.set &&& x.2.1) 46 r.length = if x.2.1 = -1 then 0 else 1 by simp [m_upr, t5]]
            repeat (refine hP _ ?_; conv => whnf)
            have hs1 : s.set = -1 := by
              by_cases y : s.set = -1
              · exact y
              · rw [if_neg y] at z; exact absurd z (by decide)
            refine ⟨fun y => ?_, fun y => ?_⟩
            · iterate 1 (refine hP _ ?_; conv => whnf)
              refine fin 0 ?_
              rw [hv, if_pos hs1, y]
            · iterate 2 (refine hP _ ?_; conv => whnf)
              refine fin 1 ?_
              rw [hv, if_pos hs1]
              by_cases w : x.2.1 = -1
              · rw [if_pos w] at y; exact absurd rfl y
              · rw [if_neg w]
          · have hs1 : ¬ s.set = -1 := by
              intro y
              rw [if_pos y] at z; exact absurd rfl z
            iterate 2 (refine hP _ ?_; conv => whnf)
            refine fin 1 ?_
            rw [hv, if_neg hs1]
        · have hne3 : ¬ nI x.1 = 3 := fun z => g3 ((nI_eq (a := x.1) (b := 3) (by omega) (by omega)).mp z)
          have ht : thr tx (x :: r) s = (s, x :: r) := by rw [thr, if_neg g2, if_neg g3]
          rw [ht] at hk
          refine ⟨fun z => absurd z hne3, fun _ => ?_⟩
          repeat (refine hP _ ?_; conv => whnf)
          refine ⟨vp_in_nI (by omega) (by omega), ?_⟩
          rw [nI_clamp (by omega), hcan]
          repeat (refine hP _ ?_; conv => whnf)
          refine ⟨fun _ => ?_, fun z => absurd rfl z⟩
          repeat (refine hP _ ?_; conv => whnf)
          refine hk _ _ ?_ (fun _ _ => by simp [m_upr]) hs
          exact hJ.ends46 hb g3 (by split; exact Or.inl rfl; exact Or.inr rfl)
  iterate 4 (refine hP _ ?_; conv => whnf)
  exact loop st s I _ none hX hs hl hn hK
