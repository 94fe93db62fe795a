theorem S_jd_cr {p q : Nat} (h : S_cr p q = false) : S_jd p q = false := by
  unfold S_cr at h
  simp only [Bool.or_eq_false_iff] at h
  exact h.1.1.1.1.1
theorem S_tk_cr {p q : Nat} (h : S_cr p q = false) : S_tk p q = false := by
  unfold S_cr at h
  simp only [Bool.or_eq_false_iff] at h
  exact h.1.1.1.1.2
theorem S_kc_cr {p q : Nat} (h : S_cr p q = false) : S_kc p q = false := by
  unfold S_cr at h
  simp only [Bool.or_eq_false_iff] at h
  exact h.1.1.1.2
theorem S_jdL_cr {p q : Nat} (h : S_crL p q = false) : S_jdL p q = false := by
  unfold S_crL at h
  simp only [Bool.or_eq_false_iff] at h
  exact h.1
theorem S_tkL_cr {p q : Nat} (h : S_crL p q = false) : S_tkL p q = false := by
  unfold S_crL at h
  simp only [Bool.or_eq_false_iff] at h
  exact h.2
theorem c_read {XL : Nat} {XS : Nat → Int32} {n : Nat} {C : mC} {I : Nat → Nat → Int32} {L : Nat → Nat → Int64} {K : mK} {tx : List Nat} (hC : m_Ge XL XS (n + 42) C) (ht : TxOk tx) (hT : TxC tx I) (hw : WdC L) (h21 : ∀ e, e < 4 → ∃ c, c ≤ 16 ∧ I 21 e = nI c)
    (hK : ∀ m I' L', m ≤ tx.length → TkM tx m → Fr S_cr I I' → Fr S_crL L L' → (∀ e, e < 4 → ∃ c, c ≤ 16 ∧ I' 21 e = nI c) → I' 1 1 = 0 → I' 27 2 = 0 → I' 27 3 = 0 → I' 27 4 = 0 → CDone (jall tx true (js0 (I 8 1) (I 8 2))) I' L' → K (some (.int (jret (jall tx true (js0 (I 8 1) (I 8 2)))))) (m_SH, I', L')) : C 87 [.ref 0] (m_SH, I, L) K := by
  refine e_X8_read hC (Nat.le_of_ble_eq_true rfl) ?_
  intro C' hC' P hP
  repeat (refine hP _ ?_; conv => whnf)
  refine c_cut (n := n + 36) hC' ht hT hw (fun m I1 L1 hml hm hk hF1 hL1 => ?_)
  repeat (refine hP _ ?_; conv => whnf)
  refine c_forget (n := n + 39) hC' ?_
  have hF2 : Fr (fun p q => (p == 1 && q == 1) || (p == 27 && (q == 2 || q == 3 || q == 4))) I1 (m_up (rbF (m_up I1 1 1 0)) 27 4 0) := by
    unfold rbF
    exact ((((Fr.rf.up rfl).up rfl).up rfl).up rfl).up rfl
  have x11 : m_up (rbF (m_up I1 1 1 0)) 27 4 0 1 1 = 0 := by simp [rbF, m_upr]
  have x272 : m_up (rbF (m_up I1 1 1 0)) 27 4 0 27 2 = 0 := by simp [rbF, m_upr]
  have x273 : m_up (rbF (m_up I1 1 1 0)) 27 4 0 27 3 = 0 := by simp [rbF, m_upr]
  have x274 : m_up (rbF (m_up I1 1 1 0)) 27 4 0 27 4 = 0 := by simp [rbF, m_upr]
  generalize m_up (rbF (m_up I1 1 1 0)) 27 4 0 = I2 at hF2 x11 x272 x273 x274
  have hk2 : TkC tx m I2 L1 := ⟨by rw [hF2 3 4 rfl]; exact hk.1, fun k hkk => by rw [hF2 4 k rfl, hF2 5 k rfl]; exact hk.2 k hkk⟩
  have e81 : I2 8 1 = I 8 1 := by rw [hF2 8 1 rfl, hF1 8 1 rfl]
  have e82 : I2 8 2 = I 8 2 := by rw [hF2 8 2 rfl, hF1 8 2 rfl]
  have h21' : ∀ e, e < 4 → ∃ c, c ≤ 16 ∧ I2 21 e = nI c := fun e he => by rw [hF2 21 e rfl, hF1 21 e rfl]; exact h21 e he
  have hFI : Fr S_cr I I2 := (hF1.mono (fun _ _ => S_tk_cr)).tr (hF2.mono (fun p q h => by unfold S_cr at h; simp at h ⊢; omega))
  repeat (refine hP _ ?_; conv => whnf)
  refine c_begin (n := n + 39) hC' ht hm hml hk2 h21' (fun I3 h3 => ?_)
  rw [e81, e82] at h3
  repeat (refine hP _ ?_; conv => whnf)
  refine c_enumerations (n := n + 35) hC' h3 (fun I4 L4 h4 => ?_)
  have hEn : ∀ s, jens tx 5 (.ok (js0 (I 8 1) (I 8 2))) = .ok s → En (js0 (I 8 1) (I 8 2)) s := fun s e => (jens_inv 5 e List.nodup_nil).1
  repeat (refine hP _ ?_; conv => whnf)
  refine c_selector (n := n + 38) hC' h4 (fun s e => ?_) (fun I5 h5 => ?_)
  · obtain ⟨e2, k2, e3⟩ := hEn s e
    rw [e3]
    rfl
  · repeat (refine hP _ ?_; conv => whnf)
    refine c_arms (n := n) hC' h5 (fun s e => ?_) (fun I6 L6 h6 hA6 => ?_)
    · cases hz : jens tx 5 (.ok (js0 (I 8 1) (I 8 2))) with
      | error er => rw [hz] at e; cases e
      | ok q =>
        rw [hz] at e
        rw [hz, e] at h5
        exact AI_sel (hEn q hz) e h5
    · repeat (refine hP _ ?_; conv => whnf)
      refine c_end (n := n + 38) hC' h6 hA6 (fun I7 h7 => ?_)
      have hall : jlst tx (jarms tx true 21 (jsel tx (jens tx 5 (.ok (js0 (I 8 1) (I 8 2)))))) = jall tx true (js0 (I 8 1) (I 8 2)) := rfl
      have hAI : ∀ s, jall tx true (js0 (I 8 1) (I 8 2)) = .ok s → AI s := fun s e => by
        rw [← hall] at e
        obtain ⟨q, q1, q2⟩ := jlst_ok e
        rw [q2]
        exact (hA6 q q1).wk
      rw [hall] at h7
      generalize jall tx true (js0 (I 8 1) (I 8 2)) = r at h7 hK hAI
      obtain ⟨⟨hF7, hL7, hB7⟩, h7⟩ := h7
      have hFr : Fr S_cr I I7 := hFI.tr (hF7.mono (fun _ _ => S_jd_cr))
      have hLr : Fr S_crL L L6 := (hL1.mono (fun _ _ => S_tkL_cr)).tr (hL7.mono (fun _ _ => S_jdL_cr))
      have y11 : I7 1 1 = 0 := by rw [hF7 1 1 rfl]; exact x11
      have y272 : I7 27 2 = 0 := by rw [hF7 27 2 rfl]; exact x272
      have y273 : I7 27 3 = 0 := by rw [hF7 27 3 rfl]; exact x273
      have y274 : I7 27 4 = 0 := by rw [hF7 27 4 rfl]; exact x274
      cases r with
      | error e =>
        obtain ⟨e1, e2, e3, e4⟩ := h7
        have hne : ¬ I7 17 9 = 0 := fun z => e1 ((nI_eq (a := e.1) (b := 0) (by omega) (by omega)).mp (e3.symm.trans z))
        repeat (refine hP _ ?_; conv => whnf)
        refine ⟨fun w => absurd w hne, fun _ => ?_⟩
        repeat (refine hP _ ?_; conv => whnf)
        refine ⟨Or.inl rfl, ?_⟩
        repeat (refine hP _ ?_; conv => whnf)
        refine c_makeN (n := n + 39) hC' (by simp [m_upr]) ?_
        repeat (refine hP _ ?_; conv => whnf)
        rw [show m_up (m_up I7 8 0 0) 23 3 0 8 0 = 0 by simp [m_upr]]
        refine ⟨fun _ => ?_, fun w => absurd rfl w⟩
        repeat (refine hP _ ?_; conv => whnf)
        rw [show m_up (m_up I7 8 0 0) 23 3 0 17 9 = nI e.1 by simp [m_upr, e3]]
        exact hK m _ _ hml hm ((hFr.up rfl).up rfl) hLr (fun i hi => by obtain ⟨c, c1, c2⟩ := hB7.2.2.2.2.2.1 i hi; exact ⟨c, c1, by simp [m_upr]; exact c2⟩) (by simp [m_upr]; exact y11) (by simp [m_upr]; exact y272) (by simp [m_upr]; exact y273) (by simp [m_upr]; exact y274) ⟨by simp [m_upr], by simp [m_upr, e4], by simp [m_upr]⟩
      | ok s =>
        obtain ⟨⟨a1, a2⟩, ⟨b1, b2⟩, ⟨c1, c2, c3⟩, ⟨f1, f2, f3, f4, f5, f6⟩, ⟨g1, g2, g3⟩, ⟨l1, l2, l3, l4⟩, ⟨n1, n2, n3⟩⟩ := h7
        have hAs := hAI s rfl
        repeat (refine hP _ ?_; conv => whnf)
        rw [a1]
        refine ⟨fun _ => ?_, fun w => absurd rfl w⟩
        repeat (refine hP _ ?_; conv => whnf)
        refine ⟨Or.inr rfl, ?_⟩
        have hF8 : Fr (fun p q => p == 8 && q == 0) I7 (m_up I7 8 0 1) := Fr.rf.up rfl
        have v0 : m_up I7 8 0 1 8 0 = 1 := by simp [m_upr]
        have hFr8 : Fr S_cr I (m_up I7 8 0 1) := hFr.up rfl
        generalize m_up I7 8 0 1 = I8 at hF8 v0 hFr8
        repeat (refine hP _ ?_; conv => whnf)
        refine c_make (lb := s.lbs) (n := n + 39) hC' v0 (by rw [hF8 8 5 rfl]; exact l1) l2 (fun j y hy => by rw [hF8 10 j rfl, hF8 11 j rfl]; exact ⟨(l3 j y hy).1, (l3 j y hy).2.1⟩) (fun I9 k1 k2 hF9 => ?_)
        have t : ∀ p q, (p == 8 && q == 0) = false → S_kc p q = false → I9 p q = I7 p q := fun p q h1 h2 => (hF9 p q h2).trans (hF8 p q h1)
        repeat (refine hP _ ?_; conv => whnf)
        rw [hF9 8 0 rfl, v0]
        refine ⟨fun w => absurd w (by decide), fun _ => ?_⟩
        repeat (refine hP _ ?_; conv => whnf)
        rw [show I9 8 4 = nI s.ars.length by rw [t 8 4 rfl rfl]; exact g1]
        refine hK m _ _ hml hm (hFr8.tr (hF9.mono (fun _ _ => S_kc_cr))) hLr (fun i hi => by obtain ⟨c, c1, c2⟩ := hB7.2.2.2.2.2.1 i hi; exact ⟨c, c1, by rw [t 21 i rfl rfl]; exact c2⟩) (by rw [t 1 1 rfl rfl]; exact y11) (by rw [t 27 2 rfl rfl]; exact y272) (by rw [t 27 3 rfl rfl]; exact y273) (by rw [t 27 4 rfl rfl]; exact y274) ⟨by rw [hF9 8 0 rfl]; exact v0, by rw [t 17 10 rfl rfl]; exact a2, hAs, ⟨by rw [t 8 6 rfl rfl]; exact b1, b2⟩, ⟨by rw [t 13 3 rfl rfl]; exact c1, c2, fun j hj => by rw [t 14 j rfl rfl, t 15 j rfl rfl, t 16 j rfl rfl]; exact c3 j hj⟩, ⟨⟨by rw [t 8 1 rfl rfl]; exact f1, by rw [t 8 2 rfl rfl]; exact f2, by rw [t 17 7 rfl rfl]; exact f3, by rw [t 8 3 rfl rfl]; exact f4, by rw [t 8 7 rfl rfl]; exact f5, by rw [t 8 8 rfl rfl]; exact f6⟩, ⟨by rw [t 8 4 rfl rfl]; exact g1, g2, fun j hj => by rw [t 9 j rfl rfl]; exact g3 j hj⟩, ⟨by rw [t 8 5 rfl rfl]; exact l1, l2, fun j y hy => by rw [t 10 j rfl rfl, t 11 j rfl rfl]; exact l3 j y hy, l4⟩, ⟨by rw [t 17 6 rfl rfl]; exact n1, n2, fun e y hy => by rw [t 21 e rfl rfl]; exact n3 e y hy⟩⟩, k1, k2⟩
