/-! ===== run, form: both ===== -/
def jrun (s : JSt) (tx : List Nat) (v flags : Int32) (nm : Nat → Int32) : (Int32 × Int32) × List Int32 × (Nat → Int32) :=
  if jArm s tx v < 0 then ((if s.val = 0 then 1 else 5, 0), [], nm) else jgo s.cd 260 (s.ars.getD (jArm s tx v).toNatClampNeg 0) flags [] nm
def S_ru : Nat → Nat → Bool := fun p q => S_go p q || (p == 27 && q == 4)
theorem S_go_ru {p q : Nat} (h : S_ru p q = false) : S_go p q = false := by
  unfold S_ru at h
  simp only [Bool.or_eq_false_iff] at h
  exact h.1
theorem CU.fr {u : JU} {S : Nat → Nat → Bool} {I I' : Nat → Nat → Int32} {L : Nat → Nat → Int64} (h : CU u I L) (hF : Fr S I I') (h8 : ∀ q, S 8 q = false) (h9 : ∀ q, S 9 q = false) (h10 : ∀ q, S 10 q = false) (h11 : ∀ q, S 11 q = false) (h17 : ∀ q, S 17 q = false) (h21 : ∀ q, S 21 q = false) : CU u I' L := by
  obtain ⟨⟨f1, f2, f3, f4, f5, f6⟩, ⟨g1, g2, g3⟩, ⟨l1, l2, l3, l4⟩, ⟨n1, n2, n3⟩⟩ := h
  exact ⟨⟨by rw [hF 8 1 (h8 _)]; exact f1, by rw [hF 8 2 (h8 _)]; exact f2, by rw [hF 17 7 (h17 _)]; exact f3, by rw [hF 8 3 (h8 _)]; exact f4, by rw [hF 8 7 (h8 _)]; exact f5, by rw [hF 8 8 (h8 _)]; exact f6⟩, ⟨by rw [hF 8 4 (h8 _)]; exact g1, g2, fun j hj => by rw [hF 9 j (h9 _)]; exact g3 j hj⟩, ⟨by rw [hF 8 5 (h8 _)]; exact l1, l2, fun j y hy => by rw [hF 10 j (h10 _), hF 11 j (h11 _)]; exact l3 j y hy, l4⟩, ⟨by rw [hF 17 6 (h17 _)]; exact n1, n2, fun e y hy => by rw [hF 21 e (h21 _)]; exact n3 e y hy⟩⟩
theorem c_run {XL : Nat} {XS : Nat → Int32} {n : Nat} {C : mC} {I : Nat → Nat → Int32} {L : Nat → Nat → Int64} {K : mK} {s : JSt} {tx : List Nat} {v flags : Int32} {nm : Nat → Int32} (hC : m_Ge XL XS (n + 4) C) (h0 : I 8 0 = 1) (hU : UC s I L) (hW : WQ s) (hA : AR s) (ht : TxOk tx) (hT : TxC tx I) (hn : ∀ i, i < 20 → I 29 i = nm i)
    (hK2 : s.srt = 2 ∧ v < 0 → K (some (.int (-2))) (m_SH, I, L))
    (hK : ¬ (s.srt = 2 ∧ v < 0) → ∀ I', TrR 28 29 (jrun s tx v flags nm).2.1 (jrun s tx v flags nm).2.2 I' → I' 27 2 = nI (jrun s tx v flags nm).2.1.length → (jrun s tx v flags nm).2.1.length ≤ 120 → I' 27 3 = (jrun s tx v flags nm).1.2 → I' 27 4 = 1 → Fr S_ru I I' → K (some (.int (jrun s tx v flags nm).1.1)) (m_SH, I', L)) : C 91 [.ref 0, .int v, .int flags] (m_SH, I, L) K := by
  obtain ⟨hAI, -, ⟨c1, c2, c3⟩, hCU, -⟩ := hU
  have hCU' := hCU
  obtain ⟨⟨f1, f2, f3, f4, f5, f6⟩, ⟨g1, g2, g3⟩, ⟨l1, l2, l3, l4⟩, -⟩ := hCU'
  have f1 : I 8 1 = s.val := f1
  have f2 : I 8 2 = s.srt := f2
  refine e_X8_run hC (Nat.le_of_ble_eq_true rfl) ?_
  intro C' hC' P hP
  -- the arm
  have s58 : ∀ a : Int64, (∀ (j : Nat) y, s.lbs[j]? = some y → ((L 12 j == a) = true ↔ pLb s tx v y = true)) → ¬ (s.srt = 2 ∧ v < 0) → P (58, [some (.ref 0), some (.int v), some (.int flags), none], [.long a, .ref 8], (m_SH, I, L), 0, 0) := by
    intro a ha hn2
    have hK := hK hn2
    have hcs := jArm_cs (tx := tx) (v := v) hA
    repeat (refine hP _ ?_; conv => whnf)
    refine c_armFor (tx := tx) (v := v) (n := n + 1) hC' hCU (fun y hy => by have := hA.1 y hy; have := hA.2.2; omega) ha ?_
    repeat (refine hP _ ?_; conv => whnf)
    refine c_rbegin (n := n + 2) hC' ?_
    have b2 : rbF I 27 2 = 0 := by simp [rbF, m_upr]
    have b3 : rbF I 27 3 = 0 := by simp [rbF, m_upr]
    have b4 : rbF I 27 4 = 1 := by simp [rbF, m_upr]
    have bF : Fr S_ru I (rbF I) := by
      unfold rbF
      exact ((Fr.rf.up rfl).up rfl).up rfl
    have bG : Fr (fun p _ => p == 27) I (rbF I) := by
      unfold rbF
      exact ((Fr.rf.up rfl).up rfl).up rfl
    generalize rbF I = I2 at b2 b3 b4 bF bG
    have hn' : ∀ i, i < 20 → I2 29 i = nm i := fun i hi => by
      rw [bG 29 i rfl]
      exact hn i hi
    unfold jrun at hK
    rcases hcs with hc | ⟨x, x1, hc⟩
    · rw [hc] at hK ⊢
      rw [if_pos (by decide)] at hK
      have hv : I2 8 1 = s.val := by rw [bG 8 1 rfl]; exact f1
      repeat (refine hP _ ?_; conv => whnf)
      refine ⟨fun _ => ?_, fun z => absurd (by decide) z⟩
      repeat (refine hP _ ?_; conv => whnf)
      rw [hv]
      have fin := hK I2 ⟨fun j hj => absurd hj (Nat.not_lt_zero _), hn'⟩ b2 (Nat.zero_le _) b3 b4 bF
      refine ⟨fun z => ?_, fun z => ?_⟩
      · have z : s.val = 0 := z
        have fin : K (some (.int (if s.val = 0 then 1 else 5))) (m_SH, I2, L) := fin
        rw [if_pos z] at fin
        repeat (refine hP _ ?_; conv => whnf)
        exact fin
      · have z : ¬ s.val = 0 := z
        have fin : K (some (.int (if s.val = 0 then 1 else 5))) (m_SH, I2, L) := fin
        rw [if_neg z] at fin
        repeat (refine hP _ ?_; conv => whnf)
        exact fin
    · have hx20 : x < 20 := by have := hA.2.2; omega
      rw [hc] at hK ⊢
      rw [if_neg (nI_pos (by omega)), nI_clamp (by omega)] at hK
      have hst : s.ars.getD x 0 ≤ s.cd.length := by
        refine hW.2.2.2 _ ?_
        rw [List.getD_eq_getElem?_getD, List.getElem?_eq_getElem x1]
        exact List.getElem_mem _
      have h9 : I2 9 x = nI (s.ars.getD x 0) := by rw [bG 9 x rfl]; exact g3 x x1
      repeat (refine hP _ ?_; conv => whnf)
      refine ⟨fun z => absurd z (nI_pos (by omega)), fun _ => ?_⟩
      repeat (refine hP _ ?_; conv => whnf)
      refine c_startOf (n := n + 2) hC' hx20 h9 ?_
      repeat (refine hP _ ?_; conv => whnf)
      refine c_go (cd := s.cd) (nm := nm) (n := n + 1) hC' (by rw [bG 13 3 rfl]; exact c1) c2 (fun j hj => by rw [bG 14 j rfl, bG 15 j rfl, bG 16 j rfl]; exact c3 j hj) (fun j y hy => hW.2.1.2.2 j y (Nat.zero_le _) hy) hst (by have := hW.2.2.1; have := hW.1.2.1; omega) b2 b3 ⟨fun j hj => absurd hj (Nat.not_lt_zero _), hn'⟩ (fun I3 t1 t2 t3 t4 t5 => ?_)
      repeat (refine hP _ ?_; conv => whnf)
      exact hK I3 t1 t2 t3 t4 (by rw [t5 27 4 rfl]; exact b4) (bF.tr (t5.mono (fun _ _ => S_go_ru)))
  have s31 : ¬ (s.srt = 2 ∧ v < 0) → P (31, [some (.ref 0), some (.int v), some (.int flags), none], [], (m_SH, I, L), 0, 0) := by
    intro hn2
    have l3' : ∀ (j : Nat) y, s.lbs[j]? = some y → L 12 j = lsg s.srt y.2.1 y.2.2 := fun j y hy => (l3 j y hy).2.2
    repeat (refine hP _ ?_; conv => whnf)
    rw [f2]
    refine ⟨fun z => ?_, fun z => ?_⟩
    · have z : s.srt = 1 := z
      repeat (refine hP _ ?_; conv => whnf)
      refine c_whole (n := n) hC' ht hT (fun a ha => ?_)
      iterate 1 (refine hP _ ?_; conv => whnf)
      refine s58 a (fun j y hy => ?_) hn2
      have hny : NmOk y.2.2 := l4 z y (List.mem_of_getElem? hy)
      have e := l3' j y hy
      unfold lsg at e
      rw [if_pos z] at e
      unfold pLb
      rw [if_pos z, e, beq_iff_eq, beq_iff_eq]
      exact ⟨fun t => ((ha _ hny).mp t.symm).symm, fun t => ((ha _ hny).mpr t.symm).symm⟩
    · have z : ¬ s.srt = 1 := z
      iterate 2 (refine hP _ ?_; conv => whnf)
      refine s58 v.toInt64 (fun j y hy => ?_) hn2
      have e := l3' j y hy
      unfold lsg at e
      rw [if_neg z] at e
      unfold pLb
      rw [if_neg z, e, beq_iff_eq, beq_iff_eq]
      refine ⟨fun t => ?_, fun t => by rw [t]⟩
      have := congrArg Int64.toInt32 t
      rw [Int32.toInt32_toInt64, Int32.toInt32_toInt64] at this
      exact this
  repeat (refine hP _ ?_; conv => whnf)
  rw [h0]
  refine ⟨fun z => absurd z (by decide), fun _ => ?_⟩
  repeat (refine hP _ ?_; conv => whnf)
  rw [f2]
  refine ⟨fun z => ?_, fun z => s31 (fun t => z t.1)⟩
  have z : s.srt = 2 := z
  repeat (refine hP _ ?_; conv => whnf)
  refine ⟨fun w => ?_, fun w => s31 (fun t => w t.2)⟩
  repeat (refine hP _ ?_; conv => whnf)
  exact hK2 ⟨z, w⟩
theorem c_runN {XL : Nat} {XS : Nat → Int32} {n : Nat} {C : mC} {I : Nat → Nat → Int32} {L : Nat → Nat → Int64} {K : mK} {v flags : Int32} (hC : m_Ge XL XS (n + 4) C) (h0 : I 8 0 = 0) (hK : K (some (.int (-3))) (m_SH, I, L)) : C 91 [.ref 0, .int v, .int flags] (m_SH, I, L) K := by
  refine e_X8_run hC (Nat.le_of_ble_eq_true rfl) ?_
  intro C' hC' P hP
  repeat (refine hP _ ?_; conv => whnf)
  rw [h0]
  refine ⟨fun _ => ?_, fun z => absurd rfl z⟩
  repeat (refine hP _ ?_; conv => whnf)
  exact hK
theorem r_runN {XL : Nat} {XS : Nat → Int32} {n : Nat} {C : mC} {I : Nat → Nat → Int32} {L : Nat → Nat → Int64} {K : mK} {v flags : Int32} (hC : m_Ge XL XS (n + 4) C) (h0 : I 30 11 = 0) (hK : K (some (.int (-3))) (m_SH, I, L)) : C 151 [.ref 30, .int v, .int flags] (m_SH, I, L) K := by
  refine e_X9_run hC (Nat.le_of_ble_eq_true rfl) ?_
  intro C' hC' P hP
  repeat (refine hP _ ?_; conv => whnf)
  rw [h0]
  refine ⟨fun _ => ?_, fun z => absurd rfl z⟩
  repeat (refine hP _ ?_; conv => whnf)
  exact hK
theorem r_run {XL : Nat} {XS : Nat → Int32} {n : Nat} {C : mC} {I : Nat → Nat → Int32} {L : Nat → Nat → Int64} {K : mK} {s : JSt} {tx : List Nat} {v flags : Int32} {nm : Nat → Int32} (hC : m_Ge XL XS (n + 4) C) (h0 : I 30 11 = 1) (hU : UR s I L) (hW : WQ s) (hA : AR s) (ht : TxOk tx) (hT : TxM tx I) (hn : ∀ i, i < 20 → I 53 i = nm i)
    (hK2 : s.srt = 2 ∧ v < 0 → K (some (.int (-2))) (m_SH, I, L))
    (hK : ¬ (s.srt = 2 ∧ v < 0) → ∀ I', TrR 52 53 (jrun s tx v flags nm).2.1 (jrun s tx v flags nm).2.2 I' → I' 30 49 = nI (jrun s tx v flags nm).2.1.length → I' 30 48 = (jrun s tx v flags nm).1.2 → I' 30 47 = 1 → Fr S_rg I I' → K (some (.int (jrun s tx v flags nm).1.1)) (m_SH, I', L)) : C 151 [.ref 30, .int v, .int flags] (m_SH, I, L) K := by
  obtain ⟨hRU, -, ⟨c2, c3, c4⟩, -⟩ := hU
  have hRU' := hRU
  obtain ⟨-, hsl, ⟨a1, a2, a3, a4⟩, -⟩ := hRU'
  obtain ⟨h16, h01, h17, -⟩ := hsl rfl
  have hcs := jArm_cs (tx := tx) (v := v) hA
  refine e_X9_run hC (Nat.le_of_ble_eq_true rfl) ?_
  intro C' hC' P hP
  have s25 : ¬ (s.srt = 2 ∧ v < 0) → P (25, [some (.ref 30), some (.int v), some (.int flags), none, none, none, none], [], (m_SH, I, L), 0, 0) := by
    intro hn2
    have hK := hK hn2
    repeat (refine hP _ ?_; conv => whnf)
    refine ⟨Or.inr rfl, ?_⟩
    repeat (refine hP _ ?_; conv => whnf)
    have b47 : m_up (m_up (m_up I 30 47 1) 30 49 0) 30 48 0 30 47 = 1 := by simp [m_upr]
    have b48 : m_up (m_up (m_up I 30 47 1) 30 49 0) 30 48 0 30 48 = 0 := by simp [m_upr]
    have b49 : m_up (m_up (m_up I 30 47 1) 30 49 0) 30 48 0 30 49 = 0 := by simp [m_upr]
    have bF : Fr S_rg I (m_up (m_up (m_up I 30 47 1) 30 49 0) 30 48 0) := ((Fr.rf.up rfl).up rfl).up rfl
    have bG : Fr (fun p q => p == 30 && (q == 47 || q == 48 || q == 49)) I (m_up (m_up (m_up I 30 47 1) 30 49 0) 30 48 0) := ((Fr.rf.up rfl).up rfl).up rfl
    generalize m_up (m_up (m_up I 30 47 1) 30 49 0) 30 48 0 = I2 at b47 b48 b49 bF bG
    have hn' : ∀ i, i < 20 → I2 53 i = nm i := fun i hi => by rw [bG 53 i rfl]; exact hn i hi
    have hT2 : TxM tx I2 := hT.fr bG rfl (fun _ => rfl)
    have hRU2 : RU true 0 s I2 L := by
      obtain ⟨⟨x1, x2, x3⟩, y, ⟨c1, c2, c3, c4⟩, ⟨d1, d2, d3⟩, e1, e2, e3, e4, e5, e6, e7⟩ := hRU
      exact ⟨⟨by rw [bG 30 12 rfl]; exact x1, x2, fun e z hz => by rw [bG 34 e rfl]; exact x3 e z hz⟩, fun w => by rw [bG 30 16 rfl, bG 30 17 rfl, bG 30 18 rfl]; exact y w, ⟨by rw [bG 30 19 rfl]; exact c1, c2, c3, fun j hj => by rw [bG 36 j rfl]; exact c4 j hj⟩, ⟨by rw [bG 30 21 rfl]; exact d1, d2, fun j z hz => by rw [bG 37 j rfl, bG 38 j rfl, bG 40 j rfl]; exact d3 j z hz⟩, by rw [bG 30 27 rfl]; exact e1, by rw [bG 30 28 rfl]; exact e2, e3, by rw [bG 30 29 rfl]; exact e4, e5, fun q1 q2 => by rw [bG 30 46 rfl]; exact e6 q1 q2, e7⟩
    refine r_armFor (tx := tx) (v := v) (n := n) hC' ht hT2 hRU2 ?_
    unfold jrun at hK
    rcases hcs with hc | ⟨x, x1, hc⟩
    · rw [hc] at hK ⊢
      rw [if_pos (by decide)] at hK
      have hv : I2 30 16 = s.val := by rw [bG 30 16 rfl]; exact h16
      repeat (refine hP _ ?_; conv => whnf)
      refine ⟨fun _ => ?_, fun z => absurd (by decide) z⟩
      repeat (refine hP _ ?_; conv => whnf)
      rw [hv]
      have fin : K (some (.int (if s.val = 0 then 1 else 5))) (m_SH, I2, L) := hK I2 ⟨fun j hj => absurd hj (Nat.not_lt_zero _), hn'⟩ b49 b48 b47 bF
      refine ⟨fun z => ?_, fun z => ?_⟩
      · have z : s.val = 0 := z
        rw [if_pos z] at fin
        repeat (refine hP _ ?_; conv => whnf)
        exact fin
      · have z : ¬ s.val = 0 := z
        rw [if_neg z] at fin
        repeat (refine hP _ ?_; conv => whnf)
        exact fin
    · have hx20 : x < 20 := by have := hA.2.2; omega
      rw [hc] at hK ⊢
      rw [if_neg (nI_pos (by omega)), nI_clamp (by omega)] at hK
      have hst : s.ars.getD x 0 ≤ s.cd.length := by
        refine hW.2.2.2 _ ?_
        rw [List.getD_eq_getElem?_getD, List.getElem?_eq_getElem x1]
        exact List.getElem_mem _
      have h36 : I2 36 x = nI (s.ars.getD x 0) := by rw [bG 36 x rfl]; exact a4 x (by omega)
      have hcnt : cnt (s.cd.drop (s.ars.getD x 0)) ≤ 120 := by
        have h1 := cnt_drop_le (cd := s.cd) (s.ars.getD x 0) 0
        rw [Nat.zero_add, List.drop_zero] at h1
        have := hW.2.2.1
        have := hW.1.2.1
        omega
      repeat (refine hP _ ?_; conv => whnf)
      refine ⟨fun z => absurd z (nI_pos (by omega)), fun _ => ?_⟩
      repeat (refine hP _ ?_; conv => whnf)
      refine ⟨vp_in_nI (by omega) (by omega), ?_⟩
      rw [nI_clamp (by omega), h36]
      iterate 3 (refine hP _ ?_; conv => whnf)
      refine r_runGo (cd := s.cd) (I := I2) (L := L) hP c2 (fun j y hy => by rw [bG 41 j rfl, bG 42 j rfl, bG 43 j rfl]; exact c3 j y hy) (by rw [bG 41 _ rfl, bG 42 _ rfl, bG 43 _ rfl]; exact c4) (fun j y hy => hW.2.1.2.2 j y (Nat.zero_le _) hy) 260 (s.ars.getD x 0) flags [] nm I2 none hst (by omega) (by simpa using hcnt) b49 b48 ⟨fun j hj => absurd hj (Nat.not_lt_zero _), hn'⟩ Fr.rf (fun I3 t1 t2 t3 t4 => ?_)
      exact hK I3 t1 t2 t3 (by rw [t4 30 47 rfl]; exact b47) (bF.tr (t4.mono (fun p q hs => by unfold S_rg at hs; unfold S_rh; simp at hs ⊢; omega)))
  repeat (refine hP _ ?_; conv => whnf)
  rw [h0]
  refine ⟨fun z => absurd z (by decide), fun _ => ?_⟩
  repeat (refine hP _ ?_; conv => whnf)
  rw [h17]
  refine ⟨fun z => ?_, fun z => s25 (fun t => z t.1)⟩
  have z : s.srt = 2 := z
  repeat (refine hP _ ?_; conv => whnf)
  refine ⟨fun w => ?_, fun w => s25 (fun t => w t.2)⟩
  repeat (refine hP _ ?_; conv => whnf)
  exact hK2 ⟨z, w⟩
