/-! ===== the class judges labels ===== -/
theorem srch_neg {f : Nat → Bool} : ∀ (c i : Nat), i + c ≤ 40 → (srch f c i < 0 ↔ ∀ j, j < c → f (i + j) = false)
  | 0, i, _ => by
    simp only [srch]
    exact ⟨fun _ j hj => absurd hj (Nat.not_lt_zero _), fun _ => by decide⟩
  | c + 1, i, h => by
    simp only [srch]
    by_cases g : f i = true
    · rw [if_pos g]
      refine ⟨fun z => absurd z (nI_pos (by omega)), fun z => ?_⟩
      have := z 0 (by omega)
      rw [Nat.add_zero, g] at this
      cases this
    · rw [if_neg g, srch_neg c (i + 1) (by omega)]
      refine ⟨fun z j hj => ?_, fun z j hj => ?_⟩
      · cases j with
        | zero => rw [Nat.add_zero]; simpa using g
        | succ j => have := z j (by omega); rw [show i + 1 + j = i + (j + 1) by omega] at this; exact this
      · have := z (j + 1) (by omega)
        rw [show i + (j + 1) = i + 1 + j by omega] at this
        exact this
theorem c_findConstantN {XL : Nat} {XS : Nat → Int32} {n : Nat} {C : mC} {I : Nat → Nat → Int32} {L : Nat → Nat → Int64} {K : mK} {a : Int64} (hC : m_Ge XL XS (n + 2) C) (hK : K (some (.int (-1))) (m_SH, I, L)) : C 15 [.ref 17, .int (-1), .long a] (m_SH, I, L) K := by
  refine e_X1_findConstant hC (Nat.le_of_ble_eq_true rfl) ?_
  intro C' hC' P hP
  repeat (refine hP _ ?_; conv => whnf)
  refine c_constantCount (n := n) hC' ?_
  rw [show ccF (-1) I = 0 from rfl]
  repeat (refine hP _ ?_; conv => whnf)
  refine ⟨fun z => absurd z (by decide), fun _ => ?_⟩
  repeat (refine hP _ ?_; conv => whnf)
  exact hK
theorem c_hasLabel {XL : Nat} {XS : Nat → Int32} {n : Nat} {C : mC} {I : Nat → Nat → Int32} {L : Nat → Nat → Int64} {K : mK} {a : Int64} {c : Nat} (hC : m_Ge XL XS (n + 2) C) (hc : I 8 5 = nI c) (h32 : c ≤ 32) (hK : K (some (.int (if srch (fun j => L 12 j == a) c 0 < 0 then 0 else 1))) (m_SH, I, L)) : C 81 [.ref 8, .long a] (m_SH, I, L) K := by
  refine e_X7_hasLabel hC (Nat.le_of_ble_eq_true rfl) ?_
  intro C' hC' P hP
  repeat (refine hP _ ?_; conv => whnf)
  refine c_labelWith (n := n) hC' hc h32 ?_
  repeat (refine hP _ ?_; conv => whnf)
  refine ⟨fun z => ?_, fun z => ?_⟩
  · rw [if_pos z] at hK
    repeat (refine hP _ ?_; conv => whnf)
    exact ⟨rfl, hK⟩
  · rw [if_neg z] at hK
    repeat (refine hP _ ?_; conv => whnf)
    exact ⟨rfl, hK⟩
theorem c_addLabel {XL : Nat} {XS : Nat → Int32} {n : Nat} {C : mC} {I : Nat → Nat → Int32} {L : Nat → Nat → Int64} {K : mK} {a : Int64} {c : Nat} (hC : m_Ge XL XS (n + 2) C) (hc : I 8 5 = nI c) (h32 : c < 32) (hK : K none (m_SH, m_up (m_up (m_up I 10 c (I 8 4 - 1)) 11 c (if I 8 2 = 1 then phG a 8 0 else a.toInt32)) 8 5 (nI (c + 1)), m_upL L 12 c a)) : C 79 [.ref 8, .long a] (m_SH, I, L) K := by
  refine e_X7_addLabel hC (Nat.le_of_ble_eq_true rfl) ?_
  intro C' hC' P hP
  repeat (refine hP _ ?_; conv => whnf)
  rw [hc]
  refine ⟨fun _ => ?_, fun z => absurd (show nI c < nI 32 from nI_lt (by omega) (by omega)) z⟩
  repeat (refine hP _ ?_; conv => whnf)
  rw [hc]
  refine ⟨vp_in_nI (by omega) (by omega), ?_⟩
  rw [nI_clamp (by omega)]
  repeat (refine hP _ ?_; conv => whnf)
  rw [show m_up I 10 c (I 8 4 - 1) 8 5 = nI c by simp [m_upr, hc]]
  refine ⟨vp_in_nI (by omega) (by omega), ?_⟩
  rw [nI_clamp (by omega)]
  repeat (refine hP _ ?_; conv => whnf)
  rw [show m_up I 10 c (I 8 4 - 1) 8 2 = I 8 2 by simp [m_upr]]
  refine ⟨fun z => ?_, fun z => ?_⟩
  · rw [if_pos z] at hK
    repeat (refine hP _ ?_; conv => whnf)
    refine c_packedHash (n := n) hC' ?_
    repeat (refine hP _ ?_; conv => whnf)
    rw [show m_up I 10 c (I 8 4 - 1) 8 5 = nI c by simp [m_upr, hc]]
    refine ⟨vp_in_nI (by omega) (by omega), ?_⟩
    rw [nI_clamp (by omega)]
    repeat (refine hP _ ?_; conv => whnf)
    rw [show m_up (m_up I 10 c (I 8 4 - 1)) 11 c (phG a 8 0) 8 5 = nI c by simp [m_upr, hc], nI_1]
    exact hK
  · rw [if_neg z] at hK
    repeat (refine hP _ ?_; conv => whnf)
    rw [show m_up I 10 c (I 8 4 - 1) 8 5 = nI c by simp [m_upr, hc]]
    refine ⟨vp_in_nI (by omega) (by omega), ?_⟩
    rw [nI_clamp (by omega)]
    repeat (refine hP _ ?_; conv => whnf)
    rw [show m_up (m_up I 10 c (I 8 4 - 1)) 11 c a.toInt32 8 5 = nI c by simp [m_upr, hc], nI_1]
    exact hK
theorem c_addLabelN {XL : Nat} {XS : Nat → Int32} {n : Nat} {C : mC} {I : Nat → Nat → Int32} {L : Nat → Nat → Int64} {K : mK} {a : Int64} (hC : m_Ge XL XS (n + 2) C) (hc : I 8 5 = nI 32) (hK : K none (m_SH, I, L)) : C 79 [.ref 8, .long a] (m_SH, I, L) K := by
  refine e_X7_addLabel hC (Nat.le_of_ble_eq_true rfl) ?_
  intro C' hC' P hP
  repeat (refine hP _ ?_; conv => whnf)
  rw [hc]
  refine ⟨fun z => absurd z (by decide), fun _ => ?_⟩
  repeat (refine hP _ ?_; conv => whnf)
  exact hK
/-- where it has failed already, a label comes into its row all the same -/
theorem c_addLabelE {XL : Nat} {XS : Nat → Int32} {n : Nat} {C : mC} {I : Nat → Nat → Int32} {L : Nat → Nat → Int64} {K : mK} {tx : List Nat} {m : Nat} {I0 : Nat → Nat → Int32} {L0 : Nat → Nat → Int64} {e : Nat × Nat} {a : Int64} (hC : m_Ge XL XS (n + 2) C) (hX : CX tx m I0 L0 (.error e) I L) (hK : ∀ I' L', CX tx m I0 L0 (.error e) I' L' → K none (m_SH, I', L')) : C 79 [.ref 8, .long a] (m_SH, I, L) K := by
  obtain ⟨c, hc, e5⟩ := hX.bd.2.2.1
  by_cases g : c < 32
  · refine c_addLabel hC e5 g (hK _ _ (CX.junk hX (((Fr.rf.up rfl).up rfl).up rfl) (Fr.rf.upL rfl) (fun hb => ?_) (by simp [m_upr]) (by simp [m_upr])))
    obtain ⟨b1, b2, b3, b4, b5, b6, b7⟩ := hb
    exact ⟨by simpa [m_upr] using b1, by simpa [m_upr] using b2, ⟨c + 1, by omega, by simp [m_upr]⟩, by simpa [m_upr] using b4, by simpa [m_upr] using b5, fun i hi => by simpa [m_upr] using b6 i hi, by simpa [m_upr] using b7⟩
  · have : c = 32 := by omega
    subst this
    exact c_addLabelN hC e5 (hK _ _ hX)
theorem CX.addl {tx : List Nat} {m : Nat} {I0 : Nat → Nat → Int32} {L0 : Nat → Nat → Int64} {I : Nat → Nat → Int32} {L : Nat → Nat → Int64} {s : JSt} {x : Int32} {cs : List Nat} {a : Int64} (h : CX tx m I0 L0 (.ok s) I L) (hl : s.lbs.length < 32) (ha0 : 0 < s.ars.length) (ha : a = lsg s.srt x cs) (hn : s.srt = 1 → NmOk cs ∧ x = jhs cs) : CX tx m I0 L0 (.ok (s.wlbs (s.lbs ++ [(s.ars.length - 1, x, cs)]))) (m_up (m_up (m_up I 10 s.lbs.length (I 8 4 - 1)) 11 s.lbs.length (if I 8 2 = 1 then phG a 8 0 else a.toInt32)) 8 5 (nI (s.lbs.length + 1))) (m_upL L 12 s.lbs.length a) := by
  obtain ⟨u1, u2, u3, u4, u5, u6⟩ := h.cu
  have hkey : (if I 8 2 = 1 then phG a 8 0 else a.toInt32) = x := by
    rw [u2, ha]
    unfold lsg
    by_cases g : s.srt = 1
    · rw [if_pos g, if_pos g, (hn g).2]
      exact phG_nm (hn g).1
    · rw [if_neg g, if_neg g]
      exact Int32.toInt32_toInt64 x
  rw [hkey]
  have h84 : I 8 4 - 1 = nI (s.ars.length - 1) := by
    have : I 8 4 = nI s.ars.length := h.ok.2.2.2.2.2.2.1.1
    rw [this, show (1 : Int32) = nI 1 from rfl, sub_nI (by omega)]
  rw [h84]
  refine h.gen (((Fr.rf.up rfl).up rfl).up rfl) (Fr.rf.upL rfl) (fun hb => ?_) (fun q e hq hm => ?_) (fun e q => by cases q)
  · obtain ⟨b1, b2, b3, b4, b5, b6, b7⟩ := hb
    exact ⟨by simpa [m_upr] using b1, by simpa [m_upr] using b2, ⟨s.lbs.length + 1, by omega, by simp [m_upr]⟩, by simpa [m_upr] using b4, by simpa [m_upr] using b5, fun i hi => by simpa [m_upr] using b6 i hi, by simpa [m_upr] using b7⟩
  · cases e
    obtain ⟨⟨a1, a2, a3, a4⟩, ⟨b1, b2⟩, c1, ⟨d1, d2, d3, d4⟩, ⟨e1, e2, e3⟩, ⟨f1, f2, f3, f4, f5, f6⟩, ⟨g1, g2, g3⟩, ⟨l1, l2, l3, l4⟩, ⟨n1, n2, n3⟩⟩ := hq
    have he : (s.wlbs (s.lbs ++ [(s.ars.length - 1, x, cs)])).u.2.2.1 = s.lbs ++ [(s.ars.length - 1, x, cs)] := rfl
    refine ⟨⟨by simp [m_upr]; exact a1, by simp [m_upr]; exact a2, by simp [m_upr]; exact a3, a4⟩, ⟨by simp [m_upr]; exact b1, b2⟩, by simp [m_upr]; exact c1, ⟨by simp [m_upr]; exact d1, d2, fun j hj => ?_, d4⟩, ⟨by simp [m_upr]; exact e1, e2, fun j hj => ?_⟩, ⟨by simp [m_upr]; exact f1, by simp [m_upr]; exact f2, by simp [m_upr]; exact f3, by simp [m_upr]; exact f4, by simp [m_upr]; exact f5, by simp [m_upr]; exact f6⟩, ⟨by simp [m_upr]; exact g1, g2, fun j hj => ?_⟩, ⟨?_, ?_, fun j y hy => ?_, fun w y hy => ?_⟩, ⟨by simp [m_upr]; exact n1, n2, fun e y hy => ?_⟩⟩
    · exact Eq.trans (by simp [m_uprL]) (d3 j hj)
    · exact (e3 j hj).trans (by simp [m_upr])
    · exact Eq.trans (by simp [m_upr]) (g3 j hj)
    · rw [he, List.length_append]; simp [m_upr]
    · rw [he, List.length_append]; simp; omega
    · rw [he] at hy
      by_cases g : j < s.lbs.length
      · rw [List.getElem?_append_left g] at hy
        obtain ⟨z1, z2, z3⟩ := l3 j y hy
        have g2 : ¬ j = s.lbs.length := by omega
        exact ⟨by simp [m_upr, g2]; exact z1, by simp [m_upr, g2]; exact z2, by simp [m_uprL, g2]; exact z3⟩
      · by_cases g2 : j = s.lbs.length
        · subst g2
          simp at hy
          subst hy
          exact ⟨by simp [m_upr], by simp [m_upr], by simp [m_uprL]; exact ha⟩
        · rw [List.getElem?_eq_none (by rw [List.length_append]; simp; omega)] at hy
          cases hy
    · rw [he] at hy
      rcases List.mem_append.mp hy with hy | hy
      · exact l4 w y hy
      · rw [List.mem_singleton.mp hy]; exact (hn w).1
    · obtain ⟨z1, z2, z3, z4, z5, z6⟩ := n3 e y hy
      exact ⟨by simp [m_uprL]; exact z1, z2, by simp [m_upr]; exact z3, z4, fun j hj => Eq.trans (by simp [m_uprL]) (z5 j hj), z6⟩
theorem CX.dup {tx : List Nat} {m : Nat} {I0 : Nat → Nat → Int32} {L0 : Nat → Nat → Int64} {I : Nat → Nat → Int32} {L : Nat → Nat → Int64} {s : JSt} {x : Int32} {cs : List Nat} {a : Int64} (h : CX tx m I0 L0 (.ok s) I L) (ha : a = lsg s.srt x cs) (hn : s.srt = 1 → NmOk cs) : (srch (fun j => L 12 j == a) s.lbs.length 0 < 0) ↔ jdup s x cs = false := by
  obtain ⟨l1, l2, l3, l4⟩ := h.ok.2.2.2.2.2.2.2.1
  have l2 : s.lbs.length ≤ 32 := l2
  rw [srch_neg _ _ (by omega)]
  have key : ∀ j y, s.lbs[j]? = some y → ((L 12 j == a) = true ↔ (if s.srt = 1 then y.2.2 = cs else y.2.1 = x)) := by
    intro j y hy
    have h3 : L 12 j = lsg s.srt y.2.1 y.2.2 := (l3 j y hy).2.2
    rw [beq_iff_eq, h3, ha]
    unfold lsg
    by_cases g : s.srt = 1
    · rw [if_pos g, if_pos g, if_pos g]
      exact nm_inj8 (l4 g y (List.mem_of_getElem? hy)) (hn g)
    · rw [if_neg g, if_neg g, if_neg g]
      refine ⟨fun z => ?_, fun z => by rw [z]⟩
      have := congrArg Int64.toInt32 z
      rw [Int32.toInt32_toInt64, Int32.toInt32_toInt64] at this
      exact this
  have hp : jdup s x cs = s.lbs.any (fun y => if s.srt = 1 then y.2.2 == cs else y.2.1 == x) := by
    unfold jdup
    by_cases g : s.srt = 1
    · simp [g]
    · simp [g]
  rw [hp]
  constructor
  · intro hz
    refine any_at (fun j y hy => ?_)
    have hj : j < s.lbs.length := by
      by_cases q : j < s.lbs.length
      · exact q
      · rw [List.getElem?_eq_none (by omega)] at hy; cases hy
    have h0 := hz j hj
    rw [Nat.zero_add] at h0
    have hk := key j y hy
    by_cases g : s.srt = 1
    · rw [if_pos g] at hk ⊢
      cases hb : (y.2.2 == cs) with
      | false => rfl
      | true =>
        have := hk.mpr (by simpa using hb)
        rw [h0] at this
        cases this
    · rw [if_neg g] at hk ⊢
      cases hb : (y.2.1 == x) with
      | false => rfl
      | true =>
        have := hk.mpr (by simpa using hb)
        rw [h0] at this
        cases this
  · intro hz j hj
    rw [Nat.zero_add]
    have hy : s.lbs[j]? = some s.lbs[j] := List.getElem?_eq_getElem hj
    cases hb : (L 12 j == a) with
    | false => rfl
    | true =>
      have hk := (key j _ hy).mp hb
      have : s.lbs.any (fun y => if s.srt = 1 then y.2.2 == cs else y.2.1 == x) = true := by
        refine any_of hy ?_
        by_cases g : s.srt = 1
        · simp only [if_pos g] at hk ⊢
          simpa using hk
        · simp only [if_neg g] at hk ⊢
          simpa using hk
      rw [hz] at this
      cases this
