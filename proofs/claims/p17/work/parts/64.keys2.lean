/-! ===== both put labels into their rows ===== -/
def S_kt : Nat → Nat → Bool := fun p q => (p == 30 && q == 52) || p == 54 || p == 55 || p == 56
def S_kc : Nat → Nat → Bool := fun p q => (p == 23 && q == 3) || p == 24 || p == 25 || p == 26
theorem kat_some {x : Int32} {t : Kt} (h : kpos x t < t.length) : t[kpos x t]? = some t[kpos x t] := List.getElem?_eq_getElem h
theorem c_put {XL : Nat} {XS : Nat → Int32} {n : Nat} {C : mC} {I : Nat → Nat → Int32} {L : Nat → Nat → Int64} {K : mK} {t : Kt} {x y : Int32} (hC : m_Ge XL XS (n + 1) C) (hR : KR 24 25 26 t I) (hc : I 23 3 = nI t.length) (hl : t.length < 32) (hK : ∀ I', KR 24 25 26 (kput x y t) I' → I' 23 3 = nI (kput x y t).length → Fr S_kc I I' → K none (m_SH, I', L)) : C 58 [.ref 23, .int x, .int y] (m_SH, I, L) K := by
  have hkl := kpos_le x t
  refine e_X5_put hC (Nat.le_of_ble_eq_true rfl) ?_
  intro C' hC' P hP
  -- where it stands
  have s57 : ¬ (t[kpos x t]?.map (fun y => y.1)) = some x → P (57, [some (.ref 23), some (.int x), some (.int y), some (.int (nI (kpos x t))), none], [], (m_SH, I, L), 0, 0) := by
    intro hne
    have hlen : (kput x y t).length = t.length + 1 := by
      unfold kput
      rw [if_neg hne, List.length_append, List.length_cons, List.length_take, List.length_drop]
      omega
    have loop : ∀ (d : Nat) (J : Nat → Nat → Int32), kpos x t + d ≤ t.length → Sh 24 25 26 t.length (kpos x t + d) I J → Fr S_kc I J → J 23 3 = nI t.length → P (72, [some (.ref 23), some (.int x), some (.int y), some (.int (nI (kpos x t))), some (.int (nI (kpos x t + d)))], [], (m_SH, J, L), 0, 0) := by
      intro d
      induction d with
      | zero =>
        intro J hd hS hF h3
        repeat (refine hP _ ?_; conv => whnf)
        refine ⟨fun w => absurd w (nI_nlt (by omega) (by omega)), fun _ => ?_⟩
        repeat (refine hP _ ?_; conv => whnf)
        refine ⟨vp_in_nI (by omega) (by omega), ?_⟩
        rw [nI_clamp (by omega)]
        repeat (refine hP _ ?_; conv => whnf)
        refine ⟨vp_in_nI (by omega) (by omega), ?_⟩
        rw [nI_clamp (by omega)]
        repeat (refine hP _ ?_; conv => whnf)
        refine ⟨vp_in_nI (by omega) (by omega), ?_⟩
        rw [nI_clamp (by omega)]
        have hfin := hS.fin (y := y) (by decide) (by decide) (by decide) hR hl hne
        repeat (refine hP _ ?_; conv => whnf)
        rw [show m_up (m_up (m_up J 24 (kpos x t) x) 25 (kpos x t) y) 26 (kpos x t) 1 23 3 = nI t.length by simp [m_upr, h3], nI_1]
        refine hK _ ?_ ?_ ((((hF.up rfl).up rfl).up rfl).up rfl)
        · refine ⟨hfin.1, fun j z hz => ?_⟩
          have := hfin.2 j z hz
          simpa [m_upr] using this
        · rw [hlen]; simp [m_upr]
      | succ d ih =>
        intro J hd hS hF h3
        repeat (refine hP _ ?_; conv => whnf)
        refine ⟨fun _ => ?_, fun w => absurd (nI_lt (by omega) (by omega)) w⟩
        have e1 : nI (kpos x t + (d + 1)) - 1 = nI (kpos x t + d) := nI_pred _
        repeat (refine hP _ ?_; conv => whnf)
        rw [e1]
        refine ⟨vp_in_nI (by omega) (by omega), ?_⟩
        rw [nI_clamp (by omega)]
        repeat (refine hP _ ?_; conv => whnf)
        refine ⟨vp_in_nI (by omega) (by omega), ?_⟩
        rw [nI_clamp (by omega)]
        repeat (refine hP _ ?_; conv => whnf)
        rw [e1]
        refine ⟨vp_in_nI (by omega) (by omega), ?_⟩
        rw [nI_clamp (by omega)]
        repeat (refine hP _ ?_; conv => whnf)
        refine ⟨vp_in_nI (by omega) (by omega), ?_⟩
        rw [nI_clamp (by omega)]
        repeat (refine hP _ ?_; conv => whnf)
        rw [e1]
        refine ⟨vp_in_nI (by omega) (by omega), ?_⟩
        rw [nI_clamp (by omega)]
        repeat (refine hP _ ?_; conv => whnf)
        refine ⟨vp_in_nI (by omega) (by omega), ?_⟩
        rw [nI_clamp (by omega)]
        have h5 := hS.st (by decide) (by decide) (by decide) (show kpos x t + d + 1 ≤ t.length by omega)
        have e := ih _ (by omega) h5 (((hF.up rfl).up rfl).up rfl) (by simp [m_upr]; exact h3)
        rw [← e1, Int32.sub_eq_add_neg] at e
        have f1 : m_up J 24 (kpos x t + (d + 1)) (J 24 (kpos x t + d)) 25 (kpos x t + d) = J 25 (kpos x t + d) := by simp [m_upr]
        have f2 : m_up (m_up J 24 (kpos x t + (d + 1)) (J 24 (kpos x t + d))) 25 (kpos x t + (d + 1)) (J 25 (kpos x t + d)) 26 (kpos x t + d) = J 26 (kpos x t + d) := by simp [m_upr]
        rw [f1, f2]
        iterate 2 (refine hP _ ?_; conv => whnf)
        exact e
    repeat (refine hP _ ?_; conv => whnf)
    rw [hc]
    refine ⟨fun _ => ?_, fun w => absurd (show nI t.length < nI 32 from nI_lt (by omega) (by omega)) w⟩
    iterate 3 (refine hP _ ?_; conv => whnf)
    rw [hc]
    obtain ⟨d, hd⟩ : ∃ d, t.length = kpos x t + d := ⟨t.length - kpos x t, by omega⟩
    have e := loop d I (by omega) (fun p _ j hj => by rw [if_neg (by omega)]) Fr.rf hc
    rw [← hd] at e
    exact e
  have s26 : P (26, [some (.ref 23), some (.int x), some (.int y), some (.int (nI (kpos x t))), none], [], (m_SH, I, L), 0, 0) := by
    repeat (refine hP _ ?_; conv => whnf)
    rw [hc]
    refine ⟨fun w => ?_, fun w => ?_⟩
    · have hlt := (nI_ltI (a := kpos x t) (b := t.length) (by omega) (by omega)).mp w
      have hat := kat_some hlt
      obtain ⟨a1, a2, a3⟩ := hR.2 _ _ hat
      repeat (refine hP _ ?_; conv => whnf)
      refine ⟨vp_in_nI (by omega) (by omega), ?_⟩
      rw [nI_clamp (by omega), a1]
      iterate 2 (refine hP _ ?_; conv => whnf)
      refine ⟨fun q => ?_, fun q => ?_⟩
      · have hmp : (t[kpos x t]?.map (fun y => y.1)) = some x := by rw [hat]; exact congrArg some q
        have hlen : (kput x y t).length = t.length := by
          unfold kput
          rw [if_pos hmp, List.length_modify]
        have hfin := hR.inc (y := y) (by decide) (by decide) hmp
        repeat (refine hP _ ?_; conv => whnf)
        refine ⟨vp_in_nI (by omega) (by omega), ?_⟩
        rw [nI_clamp (by omega)]
        repeat (refine hP _ ?_; conv => whnf)
        refine ⟨vp_in_nI (by omega) (by omega), ?_⟩
        rw [nI_clamp (by omega)]
        repeat (refine hP _ ?_; conv => whnf)
        exact hK _ hfin (by rw [hlen]; simp [m_upr]; exact hc) (Fr.rf.up rfl)
      · exact s57 (fun z => by rw [hat] at z; exact q (Option.some.inj z))
    · have hge : ¬ kpos x t < t.length := fun z => w (nI_lt z (by omega))
      exact s57 (fun z => by rw [List.getElem?_eq_none (by omega)] at z; cases z)
  have loop : ∀ (d i : Nat), i + d = kpos x t → P (2, [some (.ref 23), some (.int x), some (.int y), some (.int (nI i)), none], [], (m_SH, I, L), 0, 0) := by
    intro d
    induction d with
    | zero =>
      intro i hi
      have hi : i = kpos x t := by omega
      subst hi
      repeat (refine hP _ ?_; conv => whnf)
      rw [hc]
      refine ⟨fun w => ?_, fun _ => s26⟩
      have hlt := (nI_ltI (a := kpos x t) (b := t.length) (by omega) (by omega)).mp w
      have hat := kat_some hlt
      repeat (refine hP _ ?_; conv => whnf)
      refine ⟨vp_in_nI (by omega) (by omega), ?_⟩
      rw [nI_clamp (by omega), (hR.2 _ _ hat).1]
      iterate 2 (refine hP _ ?_; conv => whnf)
      exact ⟨fun q => absurd q (kpos_at x t _ hat), fun _ => s26⟩
    | succ d ih =>
      intro i hi
      have hlt : i < t.length := by omega
      have hat : t[i]? = some t[i] := List.getElem?_eq_getElem hlt
      repeat (refine hP _ ?_; conv => whnf)
      rw [hc]
      refine ⟨fun _ => ?_, fun w => absurd (nI_lt (by omega) (by omega)) w⟩
      repeat (refine hP _ ?_; conv => whnf)
      refine ⟨vp_in_nI (by omega) (by omega), ?_⟩
      rw [nI_clamp (by omega), (hR.2 _ _ hat).1]
      iterate 2 (refine hP _ ?_; conv => whnf)
      refine ⟨fun _ => ?_, fun q => absurd (kpos_lt x t i _ (by omega) hat) q⟩
      have e := ih (i + 1) (by omega)
      rw [← nI_1] at e
      iterate 2 (refine hP _ ?_; conv => whnf)
      exact e
  iterate 2 (refine hP _ ?_; conv => whnf)
  exact loop (kpos x t) 0 (by omega)
theorem take_snoc {α : Type} {l : List α} {i : Nat} (h : i < l.length) : l.take (i + 1) = l.take i ++ [l[i]] := List.take_succ_eq_append_getElem h
theorem c_make {XL : Nat} {XS : Nat → Int32} {n : Nat} {C : mC} {I : Nat → Nat → Int32} {L : Nat → Nat → Int64} {K : mK} {lb : List (Nat × Int32 × List Nat)} (hC : m_Ge XL XS (n + 2) C) (h0 : I 8 0 = 1) (hl : I 8 5 = nI lb.length) (hl32 : lb.length ≤ 32) (hlb : ∀ (j : Nat) y, lb[j]? = some y → I 10 j = nI y.1 ∧ I 11 j = y.2.1) (hK : ∀ I', KR 24 25 26 (ktab lb) I' → I' 23 3 = nI (ktab lb).length → Fr S_kc I I' → K none (m_SH, I', L)) : C 57 [.ref 23, .ref 8] (m_SH, I, L) K := by
  refine e_X5_make hC (Nat.le_of_ble_eq_true rfl) ?_
  intro C' hC' P hP
  have loop : ∀ (d i : Nat) (J : Nat → Nat → Int32), i + d = lb.length → KR 24 25 26 (ktab (lb.take i)) J → J 23 3 = nI (ktab (lb.take i)).length → Fr S_kc I J → P (15, [some (.ref 23), some (.ref 8), some (.int (nI i))], [], (m_SH, J, L), 0, 0) := by
    intro d
    induction d with
    | zero =>
      intro i J hi hR h3 hF
      rw [List.take_of_length_le (by omega)] at hR h3
      repeat (refine hP _ ?_; conv => whnf)
      rw [hF 8 5 rfl, hl]
      refine ⟨fun w => absurd w (nI_nlt (by omega) (by omega)), fun _ => ?_⟩
      repeat (refine hP _ ?_; conv => whnf)
      exact hK _ hR h3 hF
    | succ d ih =>
      intro i J hi hR h3 hF
      have hil : i < lb.length := by omega
      have hat : lb[i]? = some lb[i] := List.getElem?_eq_getElem hil
      obtain ⟨b1, b2⟩ := hlb i _ hat
      have hkl := ktab_len (lb.take i)
      rw [List.length_take] at hkl
      repeat (refine hP _ ?_; conv => whnf)
      rw [hF 8 5 rfl, hl]
      refine ⟨fun _ => ?_, fun w => absurd (nI_lt (by omega) (by omega)) w⟩
      repeat (refine hP _ ?_; conv => whnf)
      refine ⟨fun _ => ?_, fun w => absurd (show nI i < nI 32 from nI_lt (by omega) (by omega)) w⟩
      repeat (refine hP _ ?_; conv => whnf)
      refine ⟨vp_in_nI (by omega) (by omega), ?_⟩
      rw [nI_clamp (by omega), hF 11 i rfl, b2]
      repeat (refine hP _ ?_; conv => whnf)
      refine ⟨vp_in_nI (by omega) (by omega), ?_⟩
      rw [nI_clamp (by omega), hF 10 i rfl, b1]
      repeat (refine hP _ ?_; conv => whnf)
      refine c_put (n := n) hC' hR h3 (by omega) (fun I2 h2 h4 hF2 => ?_)
      rw [← ktab_snoc, ← take_snoc hil] at h2 h4
      have e := ih (i + 1) I2 (by omega) h2 h4 (hF.tr hF2)
      rw [← nI_1] at e
      iterate 2 (refine hP _ ?_; conv => whnf)
      exact e
  repeat (refine hP _ ?_; conv => whnf)
  rw [show m_up I 23 3 0 8 0 = 1 by simp [m_upr, h0]]
  refine ⟨fun w => absurd w (by decide), fun _ => ?_⟩
  iterate 2 (refine hP _ ?_; conv => whnf)
  refine loop lb.length 0 _ (by omega) ⟨by simp [ktab], fun j y hy => by cases hy⟩ (by simp [m_upr, ktab]; rfl) (Fr.rf.up rfl)
theorem c_makeN {XL : Nat} {XS : Nat → Int32} {n : Nat} {C : mC} {I : Nat → Nat → Int32} {L : Nat → Nat → Int64} {K : mK} (hC : m_Ge XL XS (n + 2) C) (h0 : I 8 0 = 0) (hK : K none (m_SH, m_up I 23 3 0, L)) : C 57 [.ref 23, .ref 8] (m_SH, I, L) K := by
  refine e_X5_make hC (Nat.le_of_ble_eq_true rfl) ?_
  intro C' hC' P hP
  repeat (refine hP _ ?_; conv => whnf)
  rw [show m_up I 23 3 0 8 0 = 0 by simp [m_upr, h0]]
  refine ⟨fun _ => ?_, fun w => absurd rfl w⟩
  repeat (refine hP _ ?_; conv => whnf)
  exact hK
