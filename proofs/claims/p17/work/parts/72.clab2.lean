theorem decV_lt : ∀ (l : List Nat), (∀ c ∈ l, 48 ≤ c ∧ c ≤ 57) → decV l < 10 ^ l.length
  | [], _ => by simp [decV]
  | c :: r, h => by
    rw [decV_cons, List.length_cons, Nat.pow_succ]
    have h1 := decV_lt r (fun x hx => h x (List.mem_cons_of_mem _ hx))
    have h2 := h c List.mem_cons_self
    have h3 : (c - 48) * 10 ^ r.length ≤ 9 * 10 ^ r.length := Nat.mul_le_mul_right _ (by omega)
    omega
theorem tk_num {tx : List Nat} (ht : TxOk tx) {k : Nat} (h : (tk tx k).1 = 17) : (tk tx k).2.2.2.1 < 1000000000 := by
  unfold tk at h ⊢
  generalize scan qB tx (tke tx k) = i at h ⊢
  unfold tokAt at h ⊢
  by_cases h0 : tx.length ≤ i
  · rw [if_pos h0] at h; simp at h
  rw [if_neg h0] at h ⊢
  by_cases h1 : isSm (toc tx i) = 1
  · rw [if_pos h1] at h ⊢
    split
    · exact (by decide : 0 < 1000000000)
    · exact (by decide : 0 < 1000000000)
  rw [if_neg h1] at h ⊢
  by_cases h2 : isFg (toc tx i) = 1
  · rw [if_pos h2] at h ⊢
    by_cases h3 : 9 < scan qF tx i - i
    · rw [if_pos h3]
      exact (by decide : 0 < 1000000000)
    · rw [if_neg h3]
      have hb := decV_lt _ (fig_slice ht (show i ≤ tx.length by omega))
      have hl : (slice tx i (scan qF tx i)).length ≤ 9 := by
        unfold slice
        rw [List.length_take]
        omega
      have : 10 ^ (slice tx i (scan qF tx i)).length ≤ 10 ^ 9 := Nat.pow_le_pow_right (by decide) hl
      show decV _ < 1000000000
      omega
  rw [if_neg h2] at h ⊢
  repeat' split
  all_goals exact (by decide : 0 < 1000000000)
theorem neg_l {n : Nat} (h : n < 1000000000) : (-(nI n)).toInt64 = -(lN n) := by
  rw [Int32.toInt64_neg_of_ne, nI_l (by omega)]
  intro z
  have h1 := nI_pos (n := n) (by omega)
  rw [z] at h1
  exact absurd (by decide) h1
theorem c_judgeMinus {XL : Nat} {XS : Nat → Int32} {n : Nat} {C : mC} {I : Nat → Nat → Int32} {L : Nat → Nat → Int64} {K : mK} {tx : List Nat} {m : Nat} {I0 : Nat → Nat → Int32} {L0 : Nat → Nat → Int64} {q : JSt} {j : Nat} (hC : m_Ge XL XS (n + 2) C) (hX : CX tx m I0 L0 (.ok q) I L) (hj : j ≤ m) (hK : ∀ I', CX tx m I0 L0 (if ¬ q.srt = 0 then jflt tx 5 j (.ok q) else if 32 ≤ q.lbs.length ∧ ¬ (tk tx q.k).1 = 17 then jflt tx 12 j (.ok q) else .ok q) I' L → K none (m_SH, I', L)) : C 163 [.ref 17, .int (nI j)] (m_SH, I, L) K := by
  obtain ⟨u1, u2, u3, u4, u5, u6⟩ := hX.cu
  have l1 : I 8 5 = nI q.lbs.length := hX.ok.2.2.2.2.2.2.2.1.1
  have l2 : q.lbs.length ≤ 32 := hX.ok.2.2.2.2.2.2.2.1.2.1
  have ek := nI_eq (a := jkd tx (.ok q)) (b := 17) (jkd_lt tx _) (by omega)
  refine e_X1_judgeMinus hC (Nat.le_of_ble_eq_true rfl) ?_
  intro C' hC' P hP
  repeat (refine hP _ ?_; conv => whnf)
  rw [u2]
  refine ⟨fun z => ?_, fun z => ?_⟩
  · rw [if_neg (fun w => w z)] at hK
    repeat (refine hP _ ?_; conv => whnf)
    rw [l1]
    refine ⟨fun w => ?_, fun w => ?_⟩
    · have := (nI_ltI (a := q.lbs.length) (b := 32) (by omega) (by omega)).mp w
      rw [if_neg (fun y => by omega)] at hK
      repeat (refine hP _ ?_; conv => whnf)
      exact hK _ hX
    · have h32 : 32 ≤ q.lbs.length := by
        by_cases y : 32 ≤ q.lbs.length
        · exact y
        · exact absurd (show nI q.lbs.length < nI 32 from nI_lt (by omega) (by omega)) w
      repeat (refine hP _ ?_; conv => whnf)
      refine c_kindX (n := n) hC' hX ?_
      repeat (refine hP _ ?_; conv => whnf)
      refine ⟨fun y => ?_, fun y => ?_⟩
      · rw [if_neg (fun t => t.2 (ek.mp y))] at hK
        repeat (refine hP _ ?_; conv => whnf)
        exact hK _ hX
      · rw [if_pos ⟨h32, fun t => y (ek.mpr t)⟩] at hK
        repeat (refine hP _ ?_; conv => whnf)
        refine c_fail (n := n) hC' ?_
        repeat (refine hP _ ?_; conv => whnf)
        exact hK _ (hX.failAt (a := 12) (by decide) (by decide) hj)
  · rw [if_pos z] at hK
    repeat (refine hP _ ?_; conv => whnf)
    refine c_fail (n := n) hC' ?_
    repeat (refine hP _ ?_; conv => whnf)
    exact hK _ (hX.failAt (a := 5) (by decide) (by decide) hj)
theorem jflt_er2 {tx : List Nat} {a j : Nat} {s s' : JSt} : jflt tx a j (.ok s) = jflt tx a j (.ok s') := rfl
theorem jfal_flt {tx : List Nat} {a : Nat} {s s' : JSt} : jfal tx a (.ok s) = jflt tx a s.k (.ok s') := by simp only [jfal, jflt, jb]
theorem jflt_err {tx : List Nat} {a j : Nat} {s : JSt} : ∃ e, jflt tx a j (.ok s) = .error e := ⟨_, rfl⟩
theorem c_oneLabel {XL : Nat} {XS : Nat → Int32} {n : Nat} {C : mC} {I : Nat → Nat → Int32} {L : Nat → Nat → Int64} {K : mK} {tx : List Nat} {m : Nat} {I0 : Nat → Nat → Int32} {L0 : Nat → Nat → Int64} {r : JRs} (hC : m_Ge XL XS (n + 4) C) (hX : CX tx m I0 L0 r I L) (hQ : ∀ s, r = .ok s → 0 < s.ars.length ∧ (s.srt = 2 → ∃ e, e < s.ens.length ∧ s.chs = nI e)) (hK : ∀ I' L', CX tx m I0 L0 (jlab tx true r) I' L' → K none (m_SH, I', L')) : C 21 [.ref 17] (m_SH, I, L) K := by
  refine e_X1_oneLabel hC (Nat.le_of_ble_eq_true rfl) ?_
  intro C' hC' P hP
  cases r with
  | error er =>
    have hK : ∀ I' L', CX tx m I0 L0 (.error er) I' L' → K none (m_SH, I', L') := hK
    repeat (refine hP _ ?_; conv => whnf)
    refine c_kindX (n := n + 2) hC' hX ?_
    repeat (refine hP _ ?_; conv => whnf)
    refine ⟨fun z => absurd (show nI 0 = nI 25 from z) (by decide), fun _ => ?_⟩
    repeat (refine hP _ ?_; conv => whnf)
    refine ⟨fun _ => ?_, fun w => absurd rfl w⟩
    repeat (refine hP _ ?_; conv => whnf)
    refine c_kindX (n := n + 2) hC' hX ?_
    repeat (refine hP _ ?_; conv => whnf)
    refine ⟨fun z => absurd (show nI 0 = nI 17 from z) (by decide), fun _ => ?_⟩
    repeat (refine hP _ ?_; conv => whnf)
    refine ⟨fun _ => ?_, fun w => absurd rfl w⟩
    repeat (refine hP _ ?_; conv => whnf)
    refine ⟨fun z => absurd (show nI 0 = nI 18 from z) (by decide), fun _ => ?_⟩
    repeat (refine hP _ ?_; conv => whnf)
    refine ⟨fun z => absurd (show nI 0 = nI 16 from z) (by decide), fun _ => ?_⟩
    repeat (refine hP _ ?_; conv => whnf)
    refine c_failX (a := 2) (n := n + 2) hC' hX (by decide) (by decide) (fun I' h' => ?_)
    repeat (refine hP _ ?_; conv => whnf)
    exact hK _ _ h'
  | ok s =>
    obtain ⟨q0, q2⟩ := hQ s rfl
    have hat := hX.at_ok
    have hkm := hX.km_ok
    have hj : jlab tx true (.ok s) = if (tk tx s.k).1 = 25 then
    (if ¬ s.srt = 0 then jfal tx 5 (.ok s)
     else if (tk tx (s.k + 1)).1 = 17 then jlb2 tx s.k (-(nI (tk tx (s.k + 1)).2.2.2.1)) [] (s.wk (s.k + 1))
     else if true = true ∧ 32 ≤ s.lbs.length then jfal tx 12 (.ok s)
     else jfal tx 2 (.ok (s.wk (s.k + 1))))
  else if (tk tx s.k).1 = 17 then (if s.srt = 0 then jlb2 tx s.k (nI (tk tx s.k).2.2.2.1) [] s else jfal tx 5 (.ok s))
  else if (tk tx s.k).1 = 18 then (if s.srt = 1 then jlb2 tx s.k (jhs (jnam tx s)) (jnam tx s) s else jfal tx 5 (.ok s))
  else if (tk tx s.k).1 = 16 then (if s.srt = 2 ∧ jnam tx s ∈ ccs s then jlb2 tx s.k (nI ((ccs s).idxOf (jnam tx s))) [] s else jfal tx 5 (.ok s))
  else jfal tx 2 (.ok s) := rfl
    rw [hj] at hK
    -- a label that has failed
    have s236 : ∀ (e : Nat × Nat) J M (l2 l3 l6 : Int32) (sg : Int64), CX tx m I0 L0 (.error e) J M → (∀ I' L', CX tx m I0 L0 (.error e) I' L' → K none (m_SH, I', L')) → P (236, [some (.ref 17), some (.int (nI s.k)), some (.int l2), some (.int l3), some (.long sg), none, some (.int l6)], [], (m_SH, J, M), 0, 0) := by
      intro e J M l2 l3 l6 sg hJ hk
      repeat (refine hP _ ?_; conv => whnf)
      refine c_addLabelE (n := n + 1) hC' hJ (fun I' L' h' => ?_)
      have h2 := h'.adv (fun q e => by cases e)
      repeat (refine hP _ ?_; conv => whnf)
      exact hk _ _ h2
    -- a label of the sort
    have good : ∀ (q : JSt) J (l2 l3 : Int32) (sg : Int64) (x : Int32) (cs : List Nat), CX tx m I0 L0 (.ok q) J L → q.u = s.u → (tk tx q.k).1 < 27 → sg = lsg q.srt x cs → (q.srt = 1 → NmOk cs ∧ x = jhs cs) → (∀ I' L', CX tx m I0 L0 (jlb2 tx s.k x cs q) I' L' → K none (m_SH, I', L')) → P (175, [some (.ref 17), some (.int (nI s.k)), some (.int l2), some (.int l3), some (.long sg), none, none], [.int 1], (m_SH, J, L), 0, 0) := by
      intro q J l2 l3 sg x cs hJ hqu hk27 hsg hn hk
      have l1 : J 8 5 = nI q.lbs.length := hJ.ok.2.2.2.2.2.2.2.1.1
      have l2' : q.lbs.length ≤ 32 := hJ.ok.2.2.2.2.2.2.2.1.2.1
      have hqa : 0 < q.ars.length := by unfold JSt.ars; rw [hqu]; exact q0
      have hdup := hJ.dup hsg (fun w => (hn w).1)
      unfold jlb2 at hk
      repeat (refine hP _ ?_; conv => whnf)
      refine ⟨fun w => absurd w (by decide), fun _ => ?_⟩
      repeat (refine hP _ ?_; conv => whnf)
      refine c_hasLabel (n := n + 1) hC' l1 l2' ?_
      by_cases gd : jdup q x cs = true
      · rw [if_pos gd] at hk
        rw [if_neg (fun w => by rw [hdup.mp w] at gd; cases gd)]
        repeat (refine hP _ ?_; conv => whnf)
        refine ⟨fun w => absurd w (by decide), fun _ => ?_⟩
        repeat (refine hP _ ?_; conv => whnf)
        refine c_fail (n := n + 2) hC' ?_
        have hf := hJ.failAt (a := 3) (j := s.k) (by decide) (by decide) hkm
        obtain ⟨e, he⟩ := jflt_err (tx := tx) (a := 3) (j := s.k) (s := q)
        rw [he] at hf hk
        iterate 1 (refine hP _ ?_; conv => whnf)
        exact s236 e _ L _ _ _ _ hf hk
      · rw [if_neg gd] at hk
        rw [if_pos (hdup.mpr (by simpa using gd))]
        repeat (refine hP _ ?_; conv => whnf)
        refine ⟨fun _ => ?_, fun w => absurd rfl w⟩
        repeat (refine hP _ ?_; conv => whnf)
        refine ⟨fun w => absurd w (by decide), fun _ => ?_⟩
        repeat (refine hP _ ?_; conv => whnf)
        rw [l1]
        refine ⟨fun w => ?_, fun w => ?_⟩
        · have h32 : ¬ 32 ≤ q.lbs.length := by
            have := (nI_ltI (a := q.lbs.length) (b := 32) (by omega) (by omega)).mp w
            omega
          rw [if_neg h32] at hk
          repeat (refine hP _ ?_; conv => whnf)
          refine c_addLabel (n := n + 1) hC' l1 (by omega) ?_
          have hnew := hJ.addl (x := x) (cs := cs) (a := sg) (by omega) hqa hsg hn
          have hadv := hnew.adv (fun z e => by cases e; exact ⟨by show ¬ (tk tx q.k).1 = 27; omega, by show ¬ (tk tx q.k).1 = 28; omega⟩)
          repeat (refine hP _ ?_; conv => whnf)
          exact hk _ _ hadv
        · have h32 : 32 ≤ q.lbs.length := by
            by_cases y : 32 ≤ q.lbs.length
            · exact y
            · exact absurd (show nI q.lbs.length < nI 32 from nI_lt (by omega) (by omega)) w
          rw [if_pos h32] at hk
          repeat (refine hP _ ?_; conv => whnf)
          refine c_fail (n := n + 2) hC' ?_
          have hf := hJ.failAt (a := 12) (j := s.k) (by decide) (by decide) hkm
          obtain ⟨e, he⟩ := jflt_err (tx := tx) (a := 12) (j := s.k) (s := q)
          rw [he] at hf hk
          exact s236 e _ L _ _ _ _ hf hk
    -- a label of another sort
    have bad : ∀ (l2 l3 : Int32) (sg : Int64), (∀ I' L', CX tx m I0 L0 (jfal tx 5 (.ok s)) I' L' → K none (m_SH, I', L')) → P (175, [some (.ref 17), some (.int (nI s.k)), some (.int l2), some (.int l3), some (.long sg), none, none], [.int 0], (m_SH, I, L), 0, 0) := by
      intro l2 l3 sg hk
      repeat (refine hP _ ?_; conv => whnf)
      refine ⟨fun _ => ?_, fun w => absurd rfl w⟩
      repeat (refine hP _ ?_; conv => whnf)
      refine ⟨fun _ => ?_, fun w => absurd rfl w⟩
      repeat (refine hP _ ?_; conv => whnf)
      refine c_fail (n := n + 2) hC' ?_
      have hf := hX.failAt (a := 5) (j := s.k) (by decide) (by decide) hkm
      rw [jfal_flt (s' := s)] at hk
      obtain ⟨e, he⟩ := jflt_err (tx := tx) (a := 5) (j := s.k) (s := s)
      rw [he] at hf hk
      iterate 1 (refine hP _ ?_; conv => whnf)
      exact s236 e _ L _ _ _ _ hf hk
    have e25 := nI_eq (a := jkd tx (.ok s)) (b := 25) (jkd_lt tx _) (by omega)
    repeat (refine hP _ ?_; conv => whnf)
    refine c_kindX (n := n + 2) hC' hX ?_
    rw [hat]
    repeat (refine hP _ ?_; conv => whnf)
    refine ⟨fun z => ?_, fun z => ?_⟩
    · -- a minus
      have g25 : (tk tx s.k).1 = 25 := e25.mp z
      rw [if_pos g25] at hK
      have hadv := hX.adv (fun q e => by cases e; exact ⟨by omega, by omega⟩)
      have hadv' : CX tx m I0 L0 (.ok (s.wk (s.k + 1))) (m_up I 17 8 (I 17 8 + 1)) L := hadv
      repeat (refine hP _ ?_; conv => whnf)
      refine ⟨fun w => absurd w (by decide), fun _ => ?_⟩
      repeat (refine hP _ ?_; conv => whnf)
      refine c_judgeMinus (n := n + 1) hC' hadv' hkm (fun I2 h2 => ?_)
      have fin66 : ∀ (r2 : JRs) J, CX tx m I0 L0 r2 J L → ¬ jkd tx r2 = 17 → (∀ I' L', CX tx m I0 L0 (jfal tx 2 r2) I' L' → K none (m_SH, I', L')) → P (39, [some (.ref 17), some (.int (nI s.k)), some (.int 1), none, none, none, none], [], (m_SH, J, L), 0, 0) := by
        intro r2 J hJ h17 hk
        have e17 := nI_eq (a := jkd tx r2) (b := 17) (jkd_lt tx _) (by omega)
        repeat (refine hP _ ?_; conv => whnf)
        refine c_kindX (n := n + 2) hC' hJ ?_
        repeat (refine hP _ ?_; conv => whnf)
        refine ⟨fun w => absurd (e17.mp w) h17, fun _ => ?_⟩
        repeat (refine hP _ ?_; conv => whnf)
        refine ⟨fun w => absurd w (by decide), fun _ => ?_⟩
        repeat (refine hP _ ?_; conv => whnf)
        refine c_failX (a := 2) (n := n + 2) hC' hJ (by decide) (by decide) (fun I' h' => ?_)
        repeat (refine hP _ ?_; conv => whnf)
        exact hk _ _ h'
      by_cases g0 : ¬ s.srt = 0
      · rw [if_pos g0] at hK
        rw [if_pos (show ¬ (s.wk (s.k + 1)).srt = 0 from g0)] at h2
        rw [jfal_flt (s' := s.wk (s.k + 1))] at hK
        obtain ⟨e, he⟩ := jflt_err (tx := tx) (a := 5) (j := s.k) (s := s.wk (s.k + 1))
        rw [he] at h2 hK
        exact fin66 (.error e) I2 h2 (by show ¬ 0 = 17; decide) hK
      · rw [if_neg g0] at hK
        rw [if_neg (show ¬ ¬ (s.wk (s.k + 1)).srt = 0 from g0)] at h2
        by_cases g17 : (tk tx (s.k + 1)).1 = 17
        · rw [if_pos g17] at hK
          rw [if_neg (fun w => w.2 g17)] at h2
          have hnum := tk_num hX.1.1 g17
          have e17 := nI_eq (a := jkd tx (.ok (s.wk (s.k + 1)))) (b := 17) (jkd_lt tx _) (by omega)
          have hkd : jkd tx (.ok (s.wk (s.k + 1))) = 17 := g17
          have hg0 : s.srt = 0 := Classical.byContradiction g0
          have htv : tvF I2 L = lN (tk tx (s.k + 1)).2.2.2.1 := by rw [h2.tv]; exact cval_nr g17
          have v2 : I2 8 2 = 0 := by rw [h2.cu.2.1]; exact hg0
          repeat (refine hP _ ?_; conv => whnf)
          refine c_kindX (n := n + 2) hC' h2 ?_
          rw [hkd]
          repeat (refine hP _ ?_; conv => whnf)
          refine ⟨fun _ => ?_, fun w => absurd rfl w⟩
          repeat (refine hP _ ?_; conv => whnf)
          refine ⟨fun w => absurd w (by decide), fun _ => ?_⟩
          repeat (refine hP _ ?_; conv => whnf)
          refine c_tokenValue (n := n + 2) hC' ?_
          rw [htv]
          repeat (refine hP _ ?_; conv => whnf)
          refine ⟨fun w => absurd w (by decide), fun _ => ?_⟩
          repeat (refine hP _ ?_; conv => whnf)
          refine ⟨fun _ => ?_, fun w => absurd rfl w⟩
          repeat (refine hP _ ?_; conv => whnf)
          rw [v2]
          refine ⟨fun _ => ?_, fun w => absurd rfl w⟩
          iterate 2 (refine hP _ ?_; conv => whnf)
          refine good (s.wk (s.k + 1)) I2 _ _ _ (-(nI (tk tx (s.k + 1)).2.2.2.1)) [] h2 rfl (by show (tk tx (s.k + 1)).1 < 27; omega) ?_ (fun w => absurd (hg0.symm.trans w) (by decide)) hK
          unfold lsg
          rw [if_neg (show ¬ (s.wk (s.k + 1)).srt = 1 from fun w => absurd (show (0 : Int32) = 1 from hg0.symm.trans w) (by decide))]
          exact (neg_l hnum).symm
        · rw [if_neg g17] at hK
          by_cases g32 : 32 ≤ s.lbs.length
          · rw [if_pos ⟨rfl, g32⟩, jfal_flt (s' := s.wk (s.k + 1))] at hK
            rw [if_pos (show 32 ≤ (s.wk (s.k + 1)).lbs.length ∧ ¬ (tk tx (s.wk (s.k + 1)).k).1 = 17 from ⟨g32, g17⟩)] at h2
            obtain ⟨e, he⟩ := jflt_err (tx := tx) (a := 12) (j := s.k) (s := s.wk (s.k + 1))
            rw [he] at h2 hK
            exact fin66 (.error e) I2 h2 (by show ¬ 0 = 17; decide) hK
          · rw [if_neg (fun w => g32 w.2)] at hK
            rw [if_neg (fun w => g32 w.1)] at h2
            exact fin66 (.ok (s.wk (s.k + 1))) I2 h2 g17 hK
    · have g25 : ¬ (tk tx s.k).1 = 25 := fun y => z (e25.mpr y)
      rw [if_neg g25] at hK
      obtain ⟨u1, u2, u3, u4, u5, u6⟩ := hX.cu
      have e17 := nI_eq (a := jkd tx (.ok s)) (b := 17) (jkd_lt tx _) (by omega)
      have e18 := nI_eq (a := jkd tx (.ok s)) (b := 18) (jkd_lt tx _) (by omega)
      have e16 := nI_eq (a := jkd tx (.ok s)) (b := 16) (jkd_lt tx _) (by omega)
      repeat (refine hP _ ?_; conv => whnf)
      refine ⟨fun _ => ?_, fun w => absurd rfl w⟩
      repeat (refine hP _ ?_; conv => whnf)
      refine c_kindX (n := n + 2) hC' hX ?_
      by_cases g17 : (tk tx s.k).1 = 17
      · rw [if_pos g17] at hK
        have hnum := tk_num hX.1.1 g17
        have hkd : jkd tx (.ok s) = 17 := g17
        have htv : tvF I L = lN (tk tx s.k).2.2.2.1 := by rw [hX.tv]; exact cval_nr g17
        rw [hkd]
        repeat (refine hP _ ?_; conv => whnf)
        refine ⟨fun _ => ?_, fun w => absurd rfl w⟩
        repeat (refine hP _ ?_; conv => whnf)
        refine ⟨fun w => absurd w (by decide), fun _ => ?_⟩
        repeat (refine hP _ ?_; conv => whnf)
        refine c_tokenValue (n := n + 2) hC' ?_
        rw [htv]
        repeat (refine hP _ ?_; conv => whnf)
        refine ⟨fun _ => ?_, fun w => absurd rfl w⟩
        repeat (refine hP _ ?_; conv => whnf)
        refine ⟨fun _ => ?_, fun w => absurd rfl w⟩
        repeat (refine hP _ ?_; conv => whnf)
        rw [u2]
        refine ⟨fun w => ?_, fun w => ?_⟩
        · have w : s.srt = 0 := w
          rw [if_pos w] at hK
          iterate 2 (refine hP _ ?_; conv => whnf)
          refine good s I _ _ _ (nI (tk tx s.k).2.2.2.1) [] hX rfl (by omega) ?_ (fun y => absurd (w.symm.trans y) (by decide)) hK
          unfold lsg
          rw [if_neg (fun y => absurd (w.symm.trans y) (by decide))]
          exact (nI_l (by omega)).symm
        · have w : ¬ s.srt = 0 := w
          rw [if_neg w] at hK
          repeat (refine hP _ ?_; conv => whnf)
          refine ⟨fun y => absurd y (by decide), fun _ => ?_⟩
          repeat (refine hP _ ?_; conv => whnf)
          refine ⟨fun y => absurd y (by decide), fun _ => ?_⟩
          iterate 1 (refine hP _ ?_; conv => whnf)
          exact bad _ _ _ hK
      rw [if_neg g17] at hK
      by_cases g18 : (tk tx s.k).1 = 18
      · rw [if_pos g18] at hK
        have hkd : jkd tx (.ok s) = 18 := g18
        have hnm : NmOk (jnam tx s) := tk_nm hX.1.1 (Or.inr g18)
        have htv : tvF I L = lN (pkB 256 (jnam tx s)) := by rw [hX.tv, cval_nm (Or.inr g18)]; rfl
        rw [hkd]
        repeat (refine hP _ ?_; conv => whnf)
        refine ⟨fun w => absurd w (by decide), fun _ => ?_⟩
        repeat (refine hP _ ?_; conv => whnf)
        refine ⟨fun _ => ?_, fun w => absurd rfl w⟩
        repeat (refine hP _ ?_; conv => whnf)
        refine ⟨fun _ => ?_, fun w => absurd rfl w⟩
        repeat (refine hP _ ?_; conv => whnf)
        refine ⟨fun w => absurd w (by decide), fun _ => ?_⟩
        repeat (refine hP _ ?_; conv => whnf)
        refine c_tokenValue (n := n + 2) hC' ?_
        rw [htv]
        repeat (refine hP _ ?_; conv => whnf)
        refine ⟨fun _ => ?_, fun w => absurd rfl w⟩
        repeat (refine hP _ ?_; conv => whnf)
        refine ⟨fun w => absurd w (by decide), fun _ => ?_⟩
        repeat (refine hP _ ?_; conv => whnf)
        refine ⟨fun _ => ?_, fun w => absurd rfl w⟩
        repeat (refine hP _ ?_; conv => whnf)
        rw [u2]
        refine ⟨fun w => ?_, fun w => ?_⟩
        · have w : s.srt = 1 := w
          rw [if_pos w] at hK
          iterate 2 (refine hP _ ?_; conv => whnf)
          refine good s I _ _ _ (jhs (jnam tx s)) (jnam tx s) hX rfl (by omega) ?_ (fun _ => ⟨hnm, rfl⟩) hK
          unfold lsg
          rw [if_pos w]
        · have w : ¬ s.srt = 1 := w
          rw [if_neg w] at hK
          repeat (refine hP _ ?_; conv => whnf)
          refine ⟨fun y => absurd y (by decide), fun _ => ?_⟩
          iterate 1 (refine hP _ ?_; conv => whnf)
          exact bad _ _ _ hK
      rw [if_neg g18] at hK
      by_cases g16 : (tk tx s.k).1 = 16
      · rw [if_pos g16] at hK
        have hkd : jkd tx (.ok s) = 16 := g16
        have hnm : NmOk (jnam tx s) := tk_nm hX.1.1 (Or.inl g16)
        have htv : tvF I L = lN (pkB 256 (jnam tx s)) := by rw [hX.tv, cval_nm (Or.inl g16)]; rfl
        have s94 : ∀ v : Int32, (s.srt = 2 → (v < 0 ↔ ¬ jnam tx s ∈ ccs s) ∧ (jnam tx s ∈ ccs s → v = nI ((ccs s).idxOf (jnam tx s)))) → P (94, [some (.ref 17), some (.int (nI s.k)), some (.int 0), some (.int (nI 16)), none, none, none], [.int v], (m_SH, I, L), 0, 0) := by
          intro v hv
          repeat (refine hP _ ?_; conv => whnf)
          refine ⟨fun _ => ?_, fun w => absurd rfl w⟩
          repeat (refine hP _ ?_; conv => whnf)
          refine ⟨fun w => absurd w (by decide), fun _ => ?_⟩
          repeat (refine hP _ ?_; conv => whnf)
          refine ⟨fun w => absurd w (by decide), fun _ => ?_⟩
          repeat (refine hP _ ?_; conv => whnf)
          refine ⟨fun _ => ?_, fun w => absurd rfl w⟩
          repeat (refine hP _ ?_; conv => whnf)
          rw [u2]
          refine ⟨fun w => ?_, fun w => ?_⟩
          · have w : s.srt = 2 := w
            obtain ⟨w1, w2⟩ := hv w
            repeat (refine hP _ ?_; conv => whnf)
            rw [lg_cmp_lt, show (0 : Int64) = (0 : Int32).toInt64 from rfl, Int32.toInt64_lt]
            refine ⟨fun y => ?_, fun y => ?_⟩
            · rw [if_neg (fun t => w1.mp y t.2)] at hK
              iterate 1 (refine hP _ ?_; conv => whnf)
              exact bad _ _ _ hK
            · have gm : jnam tx s ∈ ccs s := by
                by_cases u : jnam tx s ∈ ccs s
                · exact u
                · exact absurd (w1.mpr u) y
              rw [if_pos ⟨w, gm⟩, ← w2 gm] at hK
              iterate 2 (refine hP _ ?_; conv => whnf)
              refine good s I _ _ _ v [] hX rfl (by omega) ?_ (fun t => absurd (w.symm.trans t) (by decide)) hK
              unfold lsg
              rw [if_neg (fun t => absurd (w.symm.trans t) (by decide))]
          · have w : ¬ s.srt = 2 := w
            rw [if_neg (fun t => w t.1)] at hK
            iterate 1 (refine hP _ ?_; conv => whnf)
            exact bad _ _ _ hK
        rw [hkd]
        repeat (refine hP _ ?_; conv => whnf)
        refine ⟨fun w => absurd w (by decide), fun _ => ?_⟩
        repeat (refine hP _ ?_; conv => whnf)
        refine ⟨fun _ => ?_, fun w => absurd rfl w⟩
        repeat (refine hP _ ?_; conv => whnf)
        refine ⟨fun w => absurd w (by decide), fun _ => ?_⟩
        repeat (refine hP _ ?_; conv => whnf)
        refine ⟨fun _ => ?_, fun w => absurd rfl w⟩
        repeat (refine hP _ ?_; conv => whnf)
        refine ⟨fun _ => ?_, fun w => absurd rfl w⟩
        repeat (refine hP _ ?_; conv => whnf)
        refine c_tokenValue (n := n + 2) hC' ?_
        rw [htv]
        rcases hX.bd.2.2.2.2.2.2 with hb | ⟨c, c4, hb⟩
        · repeat (refine hP _ ?_; conv => whnf)
          rw [show m_fv I L 1 17 7 none = .int (-1) from congrArg Value.int hb]
          refine c_findConstantN (n := n + 1) hC' ?_
          refine s94 (-1) (fun w => ?_)
          obtain ⟨e, e1, e2⟩ := q2 w
          rw [u3, e2] at hb
          have := nI_pos (n := e) (by have := hX.cen.2.1; have : s.ens.length ≤ 4 := this; omega)
          rw [hb] at this
          exact absurd (by decide) this
        · obtain ⟨d, d1, d2⟩ := hX.bd.2.2.2.2.2.1 c c4
          repeat (refine hP _ ?_; conv => whnf)
          rw [show m_fv I L 1 17 7 none = .int (nI c) from congrArg Value.int hb]
          refine c_findConstant (n := n + 1) hC' c4 d2 d1 ?_
          refine s94 _ (fun w => ?_)
          obtain ⟨e, e1, e2⟩ := q2 w
          have hel : s.ens.length ≤ 4 := hX.cen.2.1
          have hce : c = e := by
            rw [u3, e2] at hb
            exact ((nI_eq (a := e) (b := c) (by omega) (by omega)).mp hb).symm
          subst hce
          have hx : s.ens[c]? = some s.ens[c] := List.getElem?_eq_getElem e1
          have hcc : ccs s = s.ens[c].2 := by
            unfold ccs
            rw [e2, nI_clamp (by omega), hx]
          obtain ⟨y1, y2, y3, y4, y5, y6⟩ := hX.cen.2.2 c _ hx
          rw [← hcc] at y3 y4 y5 y6
          have hd : d = (ccs s).length := (nI_eq (by omega) (by omega)).mp (d2.symm.trans y3)
          subst hd
          have hi := ix_srch (f := fun j => L 22 (c * 16 + j) == lN (pkB 256 (jnam tx s))) (cs := jnam tx s) (ns := ccs s) (by omega) (fun j hj => by
            show (L 22 (c * 16 + j) == lN (pkB 256 (jnam tx s))) = _
            rw [y5 j hj]
            refine beq_of_iff (nm_inj8 (y6 _ ?_) hnm)
            rw [List.getD_eq_getElem?_getD, List.getElem?_eq_getElem hj]
            exact List.getElem_mem _)
          exact ⟨hi.1, hi.2.1⟩
      rw [if_neg g16] at hK
      repeat (refine hP _ ?_; conv => whnf)
      refine ⟨fun w => absurd (e17.mp w) g17, fun _ => ?_⟩
      repeat (refine hP _ ?_; conv => whnf)
      refine ⟨fun _ => ?_, fun w => absurd rfl w⟩
      repeat (refine hP _ ?_; conv => whnf)
      refine ⟨fun w => absurd (e18.mp w) g18, fun _ => ?_⟩
      repeat (refine hP _ ?_; conv => whnf)
      refine ⟨fun w => absurd (e16.mp w) g16, fun _ => ?_⟩
      repeat (refine hP _ ?_; conv => whnf)
      refine c_failX (a := 2) (n := n + 2) hC' hX (by decide) (by decide) (fun I' h' => ?_)
      repeat (refine hP _ ?_; conv => whnf)
      exact hK _ _ h'
