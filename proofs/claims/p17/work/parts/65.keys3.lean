theorem r_findKeys {XL : Nat} {XS : Nat → Int32} {n : Nat} {C : mC} {I : Nat → Nat → Int32} {L : Nat → Nat → Int64} {K : mK} {lb : List (Nat × Int32 × List Nat)} (hC : m_Ge XL XS (n + 1) C) (h0 : I 30 11 = 1) (hl : I 30 21 = nI lb.length) (hl32 : lb.length ≤ 32) (hlb : ∀ (j : Nat) y, lb[j]? = some y → I 37 j = nI y.1 ∧ I 38 j = y.2.1) (hK : ∀ I', KR 54 55 56 (ktab lb) I' → I' 30 52 = nI (ktab lb).length → Fr S_kt I I' → K none (m_SH, I', L)) : C 156 [.ref 30] (m_SH, I, L) K := by
  refine e_X9_findKeys hC (Nat.le_of_ble_eq_true rfl) ?_
  intro C' hC' P hP
  have step : ∀ (i : Nat) (t : Kt) (J : Nat → Nat → Int32) (l2 l3 : Option Value), (hil : i < lb.length) → KR 54 55 56 t J → t.length < 32 → J 30 52 = nI t.length → Fr S_kt I J → (∀ J' l2 l3, KR 54 55 56 (kput lb[i].2.1 (nI lb[i].1) t) J' → J' 30 52 = nI (kput lb[i].2.1 (nI lb[i].1) t).length → Fr S_kt I J' → P (188, [some (.ref 30), some (.int (nI i)), some (.int l2), l3], [], (m_SH, J', L), 0, 0)) → P (22, [some (.ref 30), some (.int (nI i)), l2, l3], [], (m_SH, J, L), 0, 0) := by
    intro i t J l2 l3 hil hR htl hc hF hk
    have hat0 : lb[i]? = some lb[i] := List.getElem?_eq_getElem hil
    obtain ⟨b1, b2⟩ := hlb i _ hat0
    generalize hx : lb[i].2.1 = x at b2 hk
    generalize hy : nI lb[i].1 = y at b1 hk
    have hkl := kpos_le x t
    have j38 : ∀ J', Fr S_kt I J' → J' 38 i = x := fun J' h => by rw [h 38 i rfl]; exact b2
    have j37 : ∀ J', Fr S_kt I J' → J' 37 i = y := fun J' h => by rw [h 37 i rfl]; exact b1
    have s89 : ¬ (t[kpos x t]?.map (fun y => y.1)) = some x → P (89, [some (.ref 30), some (.int (nI i)), some (.int (nI (kpos x t))), l3], [], (m_SH, J, L), 0, 0) := by
      intro hne
      have hlen : (kput x y t).length = t.length + 1 := by
        unfold kput
        rw [if_neg hne, List.length_append, List.length_cons, List.length_take, List.length_drop]
        omega
      have loop : ∀ (d : Nat) (M : Nat → Nat → Int32), kpos x t + d ≤ t.length → Sh 54 55 56 t.length (kpos x t + d) J M → Fr S_kt I M → M 30 52 = nI t.length → P (94, [some (.ref 30), some (.int (nI i)), some (.int (nI (kpos x t))), some (.int (nI (kpos x t + d)))], [], (m_SH, M, L), 0, 0) := by
        intro d
        induction d with
        | zero =>
          intro M hd hS hFM h3
          have hfin := hS.fin (y := y) (by decide) (by decide) (by decide) hR htl hne
          repeat (refine hP _ ?_; conv => whnf)
          refine ⟨fun w => absurd w (nI_nlt (by omega) (by omega)), fun _ => ?_⟩
          repeat (refine hP _ ?_; conv => whnf)
          refine ⟨vp_in_nI (by omega) (by omega), ?_⟩
          rw [nI_clamp (by omega), j38 M hFM]
          repeat (refine hP _ ?_; conv => whnf)
          refine ⟨vp_in_nI (by omega) (by omega), ?_⟩
          rw [nI_clamp (by omega)]
          repeat (refine hP _ ?_; conv => whnf)
          refine ⟨vp_in_nI (by omega) (by omega), ?_⟩
          rw [nI_clamp (by omega), show m_up M 54 (kpos x t) x 37 i = y by simp [m_upr]; exact j37 M hFM]
          repeat (refine hP _ ?_; conv => whnf)
          refine ⟨vp_in_nI (by omega) (by omega), ?_⟩
          rw [nI_clamp (by omega)]
          repeat (refine hP _ ?_; conv => whnf)
          refine ⟨vp_in_nI (by omega) (by omega), ?_⟩
          rw [nI_clamp (by omega)]
          iterate 6 (refine hP _ ?_; conv => whnf)
          rw [show m_up (m_up (m_up M 54 (kpos x t) x) 55 (kpos x t) y) 56 (kpos x t) 1 30 52 = nI t.length by simp [m_upr, h3], nI_1]
          refine hk _ _ _ ?_ ?_ ((((hFM.up rfl).up rfl).up rfl).up rfl)
          · refine ⟨hfin.1, fun j z hz => ?_⟩
            have := hfin.2 j z hz
            simpa [m_upr] using this
          · rw [hlen]; simp [m_upr]
        | succ d ih =>
          intro M hd hS hFM h3
          repeat (refine hP _ ?_; conv => whnf)
          refine ⟨fun _ => ?_, fun w => absurd (nI_lt (by omega) (by omega)) w⟩
          have e1 : nI (kpos x t + (d + 1)) - 1 = nI (kpos x t + d) := nI_pred _
          repeat (refine hP _ ?_; conv => whnf)
          rw [e1]
          refine ⟨vp_in_nI (by omega) (by omega), ?_⟩
          rw [nI_clamp (by omega)]
          repeat (refine hP _ ?_; conv => whnf)
          refine ⟨vp_in_nI (by omega) (by omega), ?_⟩
          rw [nI_clamp (by omega)]
          repeat (refine hP _ ?_; conv => whnf)
          rw [e1]
          refine ⟨vp_in_nI (by omega) (by omega), ?_⟩
          rw [nI_clamp (by omega)]
          repeat (refine hP _ ?_; conv => whnf)
          refine ⟨vp_in_nI (by omega) (by omega), ?_⟩
          rw [nI_clamp (by omega)]
          repeat (refine hP _ ?_; conv => whnf)
          rw [e1]
          refine ⟨vp_in_nI (by omega) (by omega), ?_⟩
          rw [nI_clamp (by omega)]
          repeat (refine hP _ ?_; conv => whnf)
          refine ⟨vp_in_nI (by omega) (by omega), ?_⟩
          rw [nI_clamp (by omega)]
          have h5 := hS.st (by decide) (by decide) (by decide) (show kpos x t + d + 1 ≤ t.length by omega)
          have e := ih _ (by omega) h5 (((hFM.up rfl).up rfl).up rfl) (by simp [m_upr]; exact h3)
          rw [← e1, Int32.sub_eq_add_neg] at e
          have f1 : m_up M 54 (kpos x t + (d + 1)) (M 54 (kpos x t + d)) 55 (kpos x t + d) = M 55 (kpos x t + d) := by simp [m_upr]
          have f2 : m_up (m_up M 54 (kpos x t + (d + 1)) (M 54 (kpos x t + d))) 55 (kpos x t + (d + 1)) (M 55 (kpos x t + d)) 56 (kpos x t + d) = M 56 (kpos x t + d) := by simp [m_upr]
          rw [f1, f2]
          iterate 2 (refine hP _ ?_; conv => whnf)
          exact e
      iterate 3 (refine hP _ ?_; conv => whnf)
      rw [hc]
      obtain ⟨d, hd⟩ : ∃ d, t.length = kpos x t + d := ⟨t.length - kpos x t, by omega⟩
      have e := loop d J (by omega) (fun p _ j hj => by rw [if_neg (by omega)]) hF hc
      rw [← hd] at e
      exact e
    have s53 : P (53, [some (.ref 30), some (.int (nI i)), some (.int (nI (kpos x t))), l3], [], (m_SH, J, L), 0, 0) := by
      repeat (refine hP _ ?_; conv => whnf)
      rw [hc]
      refine ⟨fun w => ?_, fun w => ?_⟩
      · have hlt := (nI_ltI (a := kpos x t) (b := t.length) (by omega) (by omega)).mp w
        have hat := kat_some hlt
        obtain ⟨a1, a2, a3⟩ := hR.2 _ _ hat
        repeat (refine hP _ ?_; conv => whnf)
        refine ⟨vp_in_nI (by omega) (by omega), ?_⟩
        rw [nI_clamp (by omega), a1]
        repeat (refine hP _ ?_; conv => whnf)
        refine ⟨vp_in_nI (by omega) (by omega), ?_⟩
        rw [nI_clamp (by omega), j38 J hF]
        iterate 1 (refine hP _ ?_; conv => whnf)
        refine ⟨fun q => ?_, fun q => ?_⟩
        · have hmp : (t[kpos x t]?.map (fun y => y.1)) = some x := by rw [hat]; exact congrArg some q
          have hlen : (kput x y t).length = t.length := by
            unfold kput
            rw [if_pos hmp, List.length_modify]
          have hfin := hR.inc (y := y) (by decide) (by decide) hmp
          repeat (refine hP _ ?_; conv => whnf)
          refine ⟨vp_in_nI (by omega) (by omega), ?_⟩
          rw [nI_clamp (by omega)]
          repeat (refine hP _ ?_; conv => whnf)
          refine ⟨vp_in_nI (by omega) (by omega), ?_⟩
          rw [nI_clamp (by omega)]
          iterate 1 (refine hP _ ?_; conv => whnf)
          exact hk _ _ _ hfin (by rw [hlen]; simp [m_upr]; exact hc) (hF.up rfl)
        · exact s89 (fun z => by rw [hat] at z; exact q (Option.some.inj z))
      · have hge : ¬ kpos x t < t.length := fun z => w (nI_lt z (by omega))
        exact s89 (fun z => by rw [List.getElem?_eq_none (by omega)] at z; cases z)
    have loop : ∀ (d j : Nat), j + d = kpos x t → P (24, [some (.ref 30), some (.int (nI i)), some (.int (nI j)), l3], [], (m_SH, J, L), 0, 0) := by
      intro d
      induction d with
      | zero =>
        intro j hj
        have hj : j = kpos x t := by omega
        subst hj
        repeat (refine hP _ ?_; conv => whnf)
        rw [hc]
        refine ⟨fun w => ?_, fun _ => s53⟩
        have hlt := (nI_ltI (a := kpos x t) (b := t.length) (by omega) (by omega)).mp w
        have hat := kat_some hlt
        repeat (refine hP _ ?_; conv => whnf)
        refine ⟨vp_in_nI (by omega) (by omega), ?_⟩
        rw [nI_clamp (by omega), (hR.2 _ _ hat).1]
        repeat (refine hP _ ?_; conv => whnf)
        refine ⟨vp_in_nI (by omega) (by omega), ?_⟩
        rw [nI_clamp (by omega), j38 J hF]
        iterate 1 (refine hP _ ?_; conv => whnf)
        exact ⟨fun q => absurd q (kpos_at x t _ hat), fun _ => s53⟩
      | succ d ih =>
        intro j hj
        have hlt : j < t.length := by omega
        have hat : t[j]? = some t[j] := List.getElem?_eq_getElem hlt
        repeat (refine hP _ ?_; conv => whnf)
        rw [hc]
        refine ⟨fun _ => ?_, fun w => absurd (nI_lt (by omega) (by omega)) w⟩
        repeat (refine hP _ ?_; conv => whnf)
        refine ⟨vp_in_nI (by omega) (by omega), ?_⟩
        rw [nI_clamp (by omega), (hR.2 _ _ hat).1]
        repeat (refine hP _ ?_; conv => whnf)
        refine ⟨vp_in_nI (by omega) (by omega), ?_⟩
        rw [nI_clamp (by omega), j38 J hF]
        iterate 1 (refine hP _ ?_; conv => whnf)
        refine ⟨fun _ => ?_, fun q => absurd (kpos_lt x t j _ (by omega) hat) q⟩
        have e := ih (j + 1) (by omega)
        rw [← nI_1] at e
        iterate 2 (refine hP _ ?_; conv => whnf)
        exact e
    iterate 2 (refine hP _ ?_; conv => whnf)
    exact loop (kpos x t) 0 (by omega)
  have loop : ∀ (d i : Nat) (J : Nat → Nat → Int32) (l2 l3 : Option Value), i + d = lb.length → KR 54 55 56 (ktab (lb.take i)) J → J 30 52 = nI (ktab (lb.take i)).length → Fr S_kt I J → P (7, [some (.ref 30), some (.int (nI i)), l2, l3], [], (m_SH, J, L), 0, 0) := by
    intro d
    induction d with
    | zero =>
      intro i J l2 l3 hi hR h3 hF
      rw [List.take_of_length_le (by omega)] at hR h3
      repeat (refine hP _ ?_; conv => whnf)
      rw [hF 30 21 rfl, hl]
      refine ⟨fun w => absurd w (nI_nlt (by omega) (by omega)), fun _ => ?_⟩
      repeat (refine hP _ ?_; conv => whnf)
      exact hK _ hR h3 hF
    | succ d ih =>
      intro i J l2 l3 hi hR h3 hF
      have hil : i < lb.length := by omega
      have hkl := ktab_len (lb.take i)
      rw [List.length_take] at hkl
      repeat (refine hP _ ?_; conv => whnf)
      rw [hF 30 21 rfl, hl]
      refine ⟨fun _ => ?_, fun w => absurd (nI_lt (by omega) (by omega)) w⟩
      repeat (refine hP _ ?_; conv => whnf)
      rw [hF 30 11 rfl, h0]
      refine ⟨fun w => absurd w (by decide), fun _ => ?_⟩
      refine step i _ J l2 l3 hil hR (by omega) h3 hF (fun J' l2 l3 h2 h4 hF2 => ?_)
      rw [← ktab_snoc, ← take_snoc hil] at h2 h4
      have e := ih (i + 1) J' (some (.int l2)) l3 (by omega) h2 h4 hF2
      rw [← nI_1] at e
      iterate 2 (refine hP _ ?_; conv => whnf)
      exact e
  iterate 5 (refine hP _ ?_; conv => whnf)
  refine loop lb.length 0 _ none none (by omega) ⟨by simp [ktab], fun j y hy => by cases hy⟩ (by simp [m_upr, ktab]; rfl) (Fr.rf.up rfl)
theorem r_findKeysN {XL : Nat} {XS : Nat → Int32} {n : Nat} {C : mC} {I : Nat → Nat → Int32} {L : Nat → Nat → Int64} {K : mK} (hC : m_Ge XL XS (n + 1) C) (h0 : I 30 11 = 0) (hK : K none (m_SH, m_up I 30 52 0, L)) : C 156 [.ref 30] (m_SH, I, L) K := by
  refine e_X9_findKeys hC (Nat.le_of_ble_eq_true rfl) ?_
  intro C' hC' P hP
  repeat (refine hP _ ?_; conv => whnf)
  refine ⟨fun _ => ?_, fun _ => ?_⟩
  · repeat (refine hP _ ?_; conv => whnf)
    rw [show m_up I 30 52 0 30 11 = 0 by simp [m_upr, h0]]
    refine ⟨fun _ => ?_, fun w => absurd rfl w⟩
    repeat (refine hP _ ?_; conv => whnf)
    exact hK
  · repeat (refine hP _ ?_; conv => whnf)
    exact hK
