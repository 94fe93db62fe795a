/-! ===== the class judges what is switched over ===== -/
theorem CX.u1 {tx : List Nat} {m : Nat} {I0 : Nat → Nat → Int32} {L0 : Nat → Nat → Int64} {I : Nat → Nat → Int32} {L : Nat → Nat → Int64} {s s' : JSt} {I' : Nat → Nat → Int32} (h : CX tx m I0 L0 (.ok s) I L) (hl : s.lbs = []) (hF : Fr (fun p q => (p == 8 && (q == 1 || q == 2 || q == 3)) || (p == 17 && q == 7)) I I') (k1 : s'.k = s.k) (k2 : s'.sm = s.sm) (k3 : s'.set = s.set) (k4 : s'.nm = s.nm) (k5 : s'.cd = s.cd) (k6 : s'.ars = s.ars) (k7 : s'.lbs = s.lbs) (k8 : s'.ens = s.ens) (k9 : s'.dfl = s.dfl) (k10 : s'.old = s.old) (v1 : I' 8 1 = s'.val) (v2 : I' 8 2 = s'.srt) (v3 : I' 17 7 = s'.chs) (v4 : I' 8 3 = s'.cns) (hb : I' 17 7 = -1 ∨ ∃ c, c < 4 ∧ I' 17 7 = nI c) : CX tx m I0 L0 (.ok s') I' L := by
  refine h.gen (hF.mono (fun p q hs => by unfold S_jd at hs; simp at hs ⊢; omega)) Fr.rf (fun hb' => ?_) (fun q e hq hm => ?_) (fun e q => by cases q)
  · obtain ⟨b1, b2, b3, b4, b5, b6, b7⟩ := hb'
    refine ⟨?_, ?_, ?_, ?_, ?_, fun e he => ?_, hb⟩
    · rw [hF 13 3 rfl]; exact b1
    · rw [hF 18 1 rfl]; exact b2
    · rw [hF 8 5 rfl]; exact b3
    · rw [hF 8 4 rfl]; exact b4
    · rw [hF 17 6 rfl]; exact b5
    · rw [hF 21 e rfl]; exact b6 e he
  · cases e
    obtain ⟨⟨a1, a2, a3, a4⟩, ⟨b1, b2⟩, c1, ⟨d1, d2, d3, d4⟩, ⟨e1, e2, e3⟩, ⟨f1, f2, f3, f4, f5, f6⟩, ⟨g1, g2, g3⟩, ⟨l1, l2, l3, l4⟩, ⟨n1, n2, n3⟩⟩ := hq
    have w1 : s'.u.2.1 = s.u.2.1 := k6
    have w2 : s'.u.2.2.1 = s.u.2.2.1 := k7
    have w3 : s'.u.2.2.2 = s.u.2.2.2 := k8
    have w4 : s'.u.1.2.2.2.2.1 = s.u.1.2.2.2.2.1 := k9
    have w5 : s'.u.1.2.2.2.2.2 = s.u.1.2.2.2.2.2 := k10
    have w6 : s.u.2.2.1 = [] := hl
    refine ⟨⟨?_, ?_, ?_, ?_⟩, ⟨?_, ?_⟩, ?_, ⟨?_, ?_, fun j hj => ?_, ?_⟩, ⟨?_, ?_, fun j hj => ?_⟩, ⟨v1, v2, v3, v4, ?_, ?_⟩, ⟨?_, ?_, fun j hj => ?_⟩, ⟨?_, ?_, fun j y hy => ?_, fun _ x hx => ?_⟩, ⟨?_, ?_, fun e x hx => ?_⟩⟩
    · rw [hF 17 9 rfl]; exact a1
    · rw [hF 17 10 rfl]; exact a2
    · rw [hF 17 8 rfl, k1]; exact a3
    · rw [k1]; exact a4
    · rw [hF 8 6 rfl, k2]; exact b1
    · rw [k2]; exact b2
    · rw [hF 18 2 rfl, k3]; exact c1
    · rw [hF 18 1 rfl, k4]; exact d1
    · rw [k4]; exact d2
    · rw [k4] at hj ⊢; exact d3 j hj
    · rw [k4]; exact d4
    · rw [hF 13 3 rfl, k5]; exact e1
    · rw [k5]; exact e2
    · rw [k5] at hj ⊢
      rw [hF 14 j rfl, hF 15 j rfl, hF 16 j rfl]; exact e3 j hj
    · rw [hF 8 7 rfl, w4]; exact f5
    · rw [hF 8 8 rfl, w5]; exact f6
    · rw [hF 8 4 rfl, w1]; exact g1
    · rw [w1]; exact g2
    · rw [w1] at hj ⊢
      rw [hF 9 j rfl]; exact g3 j hj
    · rw [hF 8 5 rfl, w2]; exact l1
    · rw [w2]; exact l2
    · rw [w2, w6] at hy; cases hy
    · rw [w2, w6] at hx; cases hx
    · rw [hF 17 6 rfl, w3]; exact n1
    · rw [w3]; exact n2
    · rw [w3] at hx
      rw [hF 21 e rfl]
      exact n3 e x hx
theorem CX.cu {tx : List Nat} {m : Nat} {I0 : Nat → Nat → Int32} {L0 : Nat → Nat → Int64} {I : Nat → Nat → Int32} {L : Nat → Nat → Int64} {s : JSt} (h : CX tx m I0 L0 (.ok s) I L) : I 8 1 = s.val ∧ I 8 2 = s.srt ∧ I 17 7 = s.chs ∧ I 8 3 = s.cns ∧ I 8 7 = s.dfl ∧ I 8 8 = s.old := h.ok.2.2.2.2.2.1
theorem c_choose {XL : Nat} {XS : Nat → Int32} {n : Nat} {C : mC} {I : Nat → Nat → Int32} {L : Nat → Nat → Int64} {K : mK} {tx : List Nat} {m : Nat} {I0 : Nat → Nat → Int32} {L0 : Nat → Nat → Int64} {s : JSt} (hC : m_Ge XL XS (n + 2) C) (hX : CX tx m I0 L0 (.ok s) I L) (hl : s.lbs = []) (hk : (tk tx s.k).1 = 16) (hK : ∀ I', CX tx m I0 L0 (if jnam tx s ∈ nms s then .ok (s.wsel 2 (nI (enx s (jnam tx s))) (nI (enl s (enx s (jnam tx s))))) else jfal tx 5 (.ok s)) I' L → K none (m_SH, I', L)) : C 17 [.ref 17] (m_SH, I, L) K := by
  obtain ⟨u1, u2, u3, u4, u5, u6⟩ := hX.cu
  have e4 : s.ens.length ≤ 4 := hX.cen.2.1
  refine e_X1_chooseEnumeration hC (Nat.le_of_ble_eq_true rfl) ?_
  intro C' hC' P hP
  repeat (refine hP _ ?_; conv => whnf)
  refine c_tokenValue (n := n) hC' ?_
  repeat (refine hP _ ?_; conv => whnf)
  refine c_findEnumX (n := n) hC' hX hk (fun v v1 v2 v3 => ?_)
  by_cases gm : jnam tx s ∈ nms s
  · rw [if_pos gm] at hK
    have hv := v2 gm
    subst hv
    have hlt : enx s (jnam tx s) < s.ens.length := by
      have h1 := List.idxOf_lt_length_iff.mpr gm
      have h2 : (nms s).length = s.ens.length := by unfold nms; rw [List.length_map]
      rw [h2] at h1
      exact h1
    have hx : s.ens[enx s (jnam tx s)]? = some s.ens[enx s (jnam tx s)] := List.getElem?_eq_getElem hlt
    obtain ⟨-, -, x3, x4, -⟩ := hX.cen.2.2 _ _ hx
    have hen : enl s (enx s (jnam tx s)) = s.ens[enx s (jnam tx s)].2.length := by
      unfold enl
      rw [hx]
    generalize enx s (jnam tx s) = e at *
    repeat (refine hP _ ?_; conv => whnf)
    rw [show m_up I 17 7 (nI e) 17 7 = nI e by simp [m_upr]]
    refine ⟨fun w => absurd w (nI_pos (by omega)), fun _ => ?_⟩
    repeat (refine hP _ ?_; conv => whnf)
    refine c_constantCount (n := n) hC' ?_
    have hcc : ccF (nI e) (m_up (m_up I 17 7 (nI e)) 8 2 2) = I 21 e := by
      unfold ccF
      rw [if_neg (nI_pos (by omega)), if_pos (show nI e < 4 from nI_lt (a := e) (b := 4) (by omega) (by omega)), nI_clamp (by omega)]
      simp [m_upr]
    rw [show m_up (m_up I 17 7 (nI e)) 8 2 2 17 7 = nI e by simp [m_upr], hcc, x3, ← hen]
    repeat (refine hP _ ?_; conv => whnf)
    refine hK _ (hX.u1 (s' := s.wsel 2 (nI e) (nI (enl s e))) hl (((Fr.rf.up rfl).up rfl).up rfl) rfl rfl rfl rfl rfl rfl rfl rfl rfl rfl (by simp [m_upr]; exact u1) (by simp [m_upr]; rfl) (by simp [m_upr]; rfl) (by simp [m_upr]; rfl) (Or.inr ⟨e, by omega, by simp [m_upr]⟩))
  · rw [if_neg gm] at hK
    have hv := v3 gm
    subst hv
    repeat (refine hP _ ?_; conv => whnf)
    rw [show m_up I 17 7 (-1) 17 7 = -1 by simp [m_upr]]
    refine ⟨fun _ => ?_, fun w => absurd (by decide) w⟩
    have hne : ∀ (e : Nat × Nat), jfal tx 5 (.ok s) = .error e → True := fun _ _ => trivial
    repeat (refine hP _ ?_; conv => whnf)
    have h1 : CX tx m I0 L0 (.ok (s.wsel s.srt (-1) s.cns)) (m_up I 17 7 (-1)) L := hX.u1 hl (Fr.rf.up rfl) rfl rfl rfl rfl rfl rfl rfl rfl rfl rfl (by simp [m_upr]; exact u1) (by simp [m_upr]; exact u2) (by simp [m_upr]; rfl) (by simp [m_upr]; exact u4) (Or.inl (by simp [m_upr]))
    refine c_failX (a := 5) (n := n) hC' h1 (by decide) (by decide) (fun I' h' => ?_)
    have h' : CX tx m I0 L0 (jfal tx 5 (.ok s)) I' L := h'
    obtain ⟨e, he⟩ := jfal_err (tx := tx) (a := 5) (r := .ok s)
    rw [he] at h' hK
    repeat (refine hP _ ?_; conv => whnf)
    refine c_constantCount (n := n) hC' ?_
    repeat (refine hP _ ?_; conv => whnf)
    refine hK _ (CX.junk h' ((Fr.rf.up rfl).up rfl) Fr.rf (by simp [BD, m_upr]) (by simp [m_upr]) (by simp [m_upr]))
