/-! ===== the reference reads THE TEXT ===== -/
theorem jenm_er {tx : List Nat} {e : Nat × Nat} : jenm tx (.error e) = .error e := rfl
theorem jens_er {tx : List Nat} {e : Nat × Nat} : ∀ i, jens tx i (.error e) = .error e
  | 0 => rfl
  | i + 1 => by
    unfold jens
    exact if_neg (show ¬ (0 = 1) by decide)
theorem jarm_er {tx : List Nat} {w : Bool} {e : Nat × Nat} : jarm tx w (.error e) = .error e := rfl
theorem jarms_er {tx : List Nat} {w : Bool} {e : Nat × Nat} : ∀ i, jarms tx w i (.error e) = .error e
  | 0 => rfl
  | i + 1 => by
    unfold jarms
    exact if_neg (show ¬ (0 = 6 ∨ 0 = 7) by decide)
theorem jsl2_ok {tx : List Nat} {s s' : JSt} (h : jsl2 tx s = .ok s') : ∃ x y z, s' = s.wsel x y z := by
  unfold jsl2 at h
  split at h
  · cases h; exact ⟨_, _, _, rfl⟩
  split at h
  · cases h; exact ⟨_, _, _, rfl⟩
  split at h
  · split at h
    · cases h; exact ⟨_, _, _, rfl⟩
    · cases h
  · cases h
theorem jsel_ok {tx : List Nat} {s s' : JSt} (h : jsel tx (.ok s) = .ok s') : ∃ v x y z k, s' = ((s.wval v).wsel x y z).wk k := by
  have hj : jsel tx (.ok s) = if ¬ ((tk tx s.k).1 = 2 ∨ (tk tx s.k).1 = 3) then jfal tx 2 (.ok s) else jxpc tx 19 (jadv (jsl2 tx ((s.wval (if (tk tx s.k).1 = 3 then 1 else 0)).wk (s.k + 1)))) := rfl
  rw [hj] at h
  by_cases c1 : ¬ ((tk tx s.k).1 = 2 ∨ (tk tx s.k).1 = 3)
  · rw [if_pos c1] at h; cases h
  rw [if_neg c1] at h
  obtain ⟨a, h1, h2, -⟩ := jxpc_ok h
  cases hz : jsl2 tx ((s.wval (if (tk tx s.k).1 = 3 then 1 else 0)).wk (s.k + 1)) with
  | error e => rw [hz] at h1; cases h1
  | ok b =>
    rw [hz] at h1
    cases h1
    obtain ⟨x, y, z, e⟩ := jsl2_ok hz
    rw [h2, e]
    exact ⟨_, x, y, z, _, rfl⟩
/-- at the beginning -/
def js0 (v t : Int32) : JSt := (0, 0, 0, [], [], ((v, t, -1, 0, -1, 0), [], [], []))
theorem jens_inv {tx : List Nat} {s s' : JSt} : ∀ i, jens tx i (.ok s) = .ok s' → (nms s).Nodup → En s s' ∧ (nms s').Nodup := by
  intro i
  induction i generalizing s with
  | zero => intro h hn; cases h; exact ⟨En.rf, hn⟩
  | succ i ih =>
    intro h hn
    unfold jens at h
    split at h
    · cases hz : jenm tx (jadv (.ok s)) with
      | error e => rw [hz, jens_er] at h; cases h
      | ok q =>
        rw [hz] at h
        obtain ⟨h1, h2, -⟩ := jenm_ok (s := s.wk (s.k + 1)) hz hn
        obtain ⟨h3, h4⟩ := ih h h2
        exact ⟨(En.tr ⟨s.ens, s.k + 1, rfl⟩ h1).tr h3, h4⟩
    · cases h; exact ⟨En.rf, hn⟩
/-- the world before: what must be so for a reading to begin -/
theorem RH.start {tx : List Nat} {m : Nat} {v t : Int32} {I J : Nat → Nat → Int32} {L M : Nat → Nat → Int64} (ht : TxOk tx) (hm : TkM tx m) (hml : m ≤ tx.length) (hT : TxM tx I) (hw : WdM L) (hB : BB I) (hF : Fr S_nx I J) (hL : Fr S_nxL L M) (hk : RTok tx 0 J M) (h8 : I 30 8 = 0) (h12 : I 30 12 = 0) (h19 : I 30 19 = 0) (h21 : I 30 21 = 0) (h26 : I 30 26 = 0) (h33 : I 30 33 = 0) (h35 : I 30 35 = 0) (h44 : I 30 44 = 0) (h45 : I 30 45 = 0) (h27 : I 30 27 = -1) (h28 : I 30 28 = 0) (h29 : I 30 29 = 0) : RH tx m I L false 0 (.ok (js0 v t)) J M := by
  have hF2 : Fr S_st I J := hF.mono (fun _ _ => S_nx_st)
  have hL2 : Fr S_stL L M := hL.mono (fun _ _ => S_nxL_st)
  refine ⟨⟨hF2.mono (fun _ _ => S_st_rd), hL2.mono (fun _ _ => S_stL_rd)⟩, ⟨((J 30 16, 0, 0, 0, 0, 0), [], [], []), J 30 36, ⟨ht, hm, hml, hT.fr hF2 rfl (fun _ => rfl), hw.fr hL2 (fun _ => rfl)⟩, ⟨Fr.rf, hB.of (fun j => hF 46 j rfl)⟩, Fr.rf, by omega, ⟨⟨hk, ?_, Nat.zero_le _⟩, ⟨?_, Nat.zero_le _⟩, ⟨rfl, rfl, rfl⟩, ⟨?_, Nat.zero_le _, fun j hj => absurd hj (Nat.not_lt_zero _), fun c hc => by cases hc⟩, ⟨?_, fun j x hx => by cases hx⟩, ?_, ?_, Nat.zero_le _, Nat.zero_le _, trivial⟩, Nat.zero_le _⟩, ⟨?_, Nat.zero_le _, fun e x hx => by cases hx⟩, fun q => absurd q (by decide), ⟨?_, Nat.zero_le _, Nat.zero_le _, fun j hj => absurd hj (Nat.not_lt_zero _)⟩, ⟨?_, Nat.zero_le _, fun j x hx => by cases hx⟩, ?_, ?_, Or.inl rfl, ?_, fun _ => rfl, fun _ q => absurd rfl q, fun _ => rfl⟩
  · rw [hF 30 8 rfl]; exact h8
  · rw [hF 30 26 rfl]; exact h26
  · rw [hF 30 35 rfl]; exact h35
  · rw [hF 30 33 rfl]; exact h33
  · rw [hF 30 44 rfl]; exact h44
  · rw [hF 30 45 rfl]; exact h45
  · rw [hF 30 12 rfl]; exact h12
  · rw [hF 30 19 rfl]; exact h19
  · rw [hF 30 21 rfl]; exact h21
  · rw [hF 30 27 rfl]; exact h27
  · rw [hF 30 28 rfl]; exact h28
  · rw [hF 30 29 rfl]; exact h29
theorem rd_s264 {XL : Nat} {XS : Nat → Int32} {n : Nat} {C' : mC} {K : mK} {P : mT → Prop} {tx : List Nat} {m : Nat} {I0 : Nat → Nat → Int32} {L0 : Nat → Nat → Int64} (hC' : m_Ge XL XS (n + 10) C') (hP : ∀ t, m_F XL XS C' kX9_read (some .int) 0 0 0 K P t → P t) : ∀ (r : JRs) (J : Nat → Nat → Int32) (M : Nat → Nat → Int64), RH tx m I0 L0 true 0 r J M → (∀ I' L', RH tx m I0 L0 true 0 (jb r fun q => if (tk tx q.k).1 = 27 then .ok q else jfal tx 2 (.ok q)) I' L' → P (282, [some (.ref 30)], [], (m_SH, I', L'), 0, 0)) → P (264, [some (.ref 30)], [], (m_SH, J, M), 0, 0) := by
  intro r J M hr hk
  cases r with
  | error e =>
    iterate 3 (refine hP _ ?_; conv => whnf)
    refine ⟨fun w => absurd w hr.flt_er.2, fun _ => ?_⟩
    exact hk _ _ hr
  | ok q =>
    simp only [jb] at hk
    repeat (refine hP _ ?_; conv => whnf)
    refine ⟨fun _ => ?_, fun w => absurd hr.flt_ok w⟩
    repeat (refine hP _ ?_; conv => whnf)
    rw [hr.cl]
    have t27 := (tcl_eq (tk_29 tx q.k)).2.2.2.2.1
    refine ⟨fun w => ?_, fun w => ?_⟩
    · rw [if_pos (t27.mp w)] at hk
      exact hk _ _ hr
    · rw [if_neg (fun y => w (t27.mpr y))] at hk
      repeat (refine hP _ ?_; conv => whnf)
      refine h_cannot (n := n + 8) hC' hr (fun I' h' => ?_)
      exact hk _ _ h'
theorem rd_s253 {XL : Nat} {XS : Nat → Int32} {n : Nat} {C' : mC} {K : mK} {P : mT → Prop} {tx : List Nat} {m : Nat} {I0 : Nat → Nat → Int32} {L0 : Nat → Nat → Int64} (hC' : m_Ge XL XS (n + 10) C') (hP : ∀ t, m_F XL XS C' kX9_read (some .int) 0 0 0 K P t → P t) : ∀ (r : JRs) (J : Nat → Nat → Int32) (M : Nat → Nat → Int64), RH tx m I0 L0 true 0 r J M → (∀ q, r = .ok q → (tk tx q.k).1 < 27) → (∀ I' L', RH tx m I0 L0 true 0 (jb r fun q => if (tk tx (q.k + 1)).1 = 27 then .ok (q.wk (q.k + 1)) else jfal tx 2 (.ok (q.wk (q.k + 1)))) I' L' → P (282, [some (.ref 30)], [], (m_SH, I', L'), 0, 0)) → P (253, [some (.ref 30)], [], (m_SH, J, M), 0, 0) := by
  intro r J M hr hq hk
  cases r with
  | error e =>
    iterate 3 (refine hP _ ?_; conv => whnf)
    refine ⟨fun w => absurd w hr.flt_er.2, fun _ => ?_⟩
    have hk' : ∀ I' L', RH tx m I0 L0 true 0 (.error e) I' L' → P (282, [some (.ref 30)], [], (m_SH, I', L'), 0, 0) := hk
    exact (rd_s264 hC' hP) (.error e) J M hr hk'
  | ok q =>
    repeat (refine hP _ ?_; conv => whnf)
    refine ⟨fun _ => ?_, fun w => absurd hr.flt_ok w⟩
    repeat (refine hP _ ?_; conv => whnf)
    refine h_next (n := n + 7) hC' hr (hq q rfl) (fun I2 L2 h2 => ?_)
    have hk' : ∀ I' L', RH tx m I0 L0 true 0 (if (tk tx (q.k + 1)).1 = 27 then .ok (q.wk (q.k + 1)) else jfal tx 2 (.ok (q.wk (q.k + 1)))) I' L' → P (282, [some (.ref 30)], [], (m_SH, I', L'), 0, 0) := hk
    exact (rd_s264 hC' hP) (.ok (q.wk (q.k + 1))) I2 L2 h2 hk'
theorem rd_s202 {XL : Nat} {XS : Nat → Int32} {n : Nat} {C' : mC} {K : mK} {P : mT → Prop} {tx : List Nat} {m : Nat} {I0 : Nat → Nat → Int32} {L0 : Nat → Nat → Int64} (hC' : m_Ge XL XS (n + 10) C') (hP : ∀ t, m_F XL XS C' kX9_read (some .int) 0 0 0 K P t → P t) : ∀ (r : JRs) (J : Nat → Nat → Int32) (M : Nat → Nat → Int64), RH tx m I0 L0 true 0 r J M → (∀ q, r = .ok q → (tk tx q.k).1 < 27) → (∀ I' L', RH tx m I0 L0 true 0 (jb r fun s => if ¬ s.val = 0 ∧ s.dfl < 0 ∧ (¬ s.srt = 2 ∨ s.lbs.length < (ccs s).length) then jfal tx 11 (.ok s) else if (tk tx (s.k + 1)).1 = 27 then .ok (s.wk (s.k + 1)) else jfal tx 2 (.ok (s.wk (s.k + 1)))) I' L' → P (282, [some (.ref 30)], [], (m_SH, I', L'), 0, 0)) → P (202, [some (.ref 30)], [], (m_SH, J, M), 0, 0) := by
  intro r J M hr hq hk
  cases r with
  | error e =>
    iterate 3 (refine hP _ ?_; conv => whnf)
    refine ⟨fun w => absurd w hr.flt_er.2, fun _ => ?_⟩
    have hk' : ∀ I' L', RH tx m I0 L0 true 0 (.error e) I' L' → P (282, [some (.ref 30)], [], (m_SH, I', L'), 0, 0) := hk
    exact (rd_s253 hC' hP) (.error e) J M hr hq hk'
  | ok q =>
    obtain ⟨r16, r01, r17, r012, r2⟩ := hr.2.2.2.1 rfl
    have r27 : J 30 27 = q.dfl := hr.2.2.2.2.2.2.1
    have r21 : J 30 21 = nI q.lbs.length := hr.2.2.2.2.2.1.1
    have r32 : q.lbs.length ≤ 32 := hr.2.2.2.2.2.1.2.1
    simp only [jb] at hk
    have no : ¬ (¬ q.val = 0 ∧ q.dfl < 0 ∧ (¬ q.srt = 2 ∨ q.lbs.length < (ccs q).length)) → P (253, [some (.ref 30)], [], (m_SH, J, M), 0, 0) := by
      intro g
      rw [if_neg g] at hk
      exact (rd_s253 hC' hP) (.ok q) J M hr hq hk
    have yes : (¬ q.val = 0 ∧ q.dfl < 0 ∧ (¬ q.srt = 2 ∨ q.lbs.length < (ccs q).length)) → P (247, [some (.ref 30)], [], (m_SH, J, M), 0, 0) := by
      intro g
      rw [if_pos g] at hk
      repeat (refine hP _ ?_; conv => whnf)
      refine h_wrong (a := 11) (n := n + 9) hC' hr (by decide) (by decide) (by decide) (fun I' h' => ?_)
      obtain ⟨e, he⟩ := jfal_err (tx := tx) (a := 11) (r := .ok q)
      rw [he] at h' hk
      exact (rd_s253 hC' hP) (.error e) I' M h' (fun q e => by cases e) hk
    repeat (refine hP _ ?_; conv => whnf)
    refine ⟨fun _ => ?_, fun w => absurd hr.flt_ok w⟩
    repeat (refine hP _ ?_; conv => whnf)
    rw [r16]
    refine ⟨fun w => no (fun y => y.1 w), fun w => ?_⟩
    repeat (refine hP _ ?_; conv => whnf)
    rw [r27]
    refine ⟨fun y => ?_, fun y => no (fun z => y z.2.1)⟩
    repeat (refine hP _ ?_; conv => whnf)
    rw [r17]
    refine ⟨fun z => ?_, fun z => ?_⟩
    · have z : q.srt = 2 := z
      obtain ⟨e, e1, e2, e3, e4⟩ := r2 z
      have hx : q.ens[e]? = some q.ens[e] := List.getElem?_eq_getElem e1
      have hel := hr.2.2.1.2.1
      have hcc : ccs q = q.ens[e].2 := by
        unfold ccs
        rw [e2, nI_clamp (by omega), hx]
      obtain ⟨-, -, x3, x4, -⟩ := hr.2.2.1.2.2 e _ hx
      rw [← hcc] at x3 x4
      repeat (refine hP _ ?_; conv => whnf)
      rw [e3]
      refine ⟨vp_in_nI (by omega) (by omega), ?_⟩
      rw [nI_clamp (by omega), x3]
      repeat (refine hP _ ?_; conv => whnf)
      rw [r21]
      refine ⟨fun u => ?_, fun u => ?_⟩
      · have hlt := (nI_ltI (a := q.lbs.length) (b := (ccs q).length) (by omega) (by omega)).mp u
        exact yes ⟨w, y, Or.inr hlt⟩
      · refine no (fun v => ?_)
        rcases v.2.2 with v | v
        · exact v z
        · exact u (nI_lt v (by omega))
    · exact yes ⟨w, y, Or.inl z⟩
theorem rd_s168 {XL : Nat} {XS : Nat → Int32} {n : Nat} {C' : mC} {K : mK} {P : mT → Prop} {tx : List Nat} {m : Nat} {I0 : Nat → Nat → Int32} {L0 : Nat → Nat → Int64} (hC' : m_Ge XL XS (n + 10) C') (hP : ∀ t, m_F XL XS C' kX9_read (some .int) 0 0 0 K P t → P t) : ∀ (r : JRs) (J : Nat → Nat → Int32) (M : Nat → Nat → Int64), RH tx m I0 L0 true 0 r J M → (∀ q, r = .ok q → (tk tx q.k).1 = 20) → (∀ I' L', RH tx m I0 L0 true 0 (jlst tx r) I' L' → P (282, [some (.ref 30)], [], (m_SH, I', L'), 0, 0)) → P (168, [some (.ref 30)], [], (m_SH, J, M), 0, 0) := by
  intro r J M hr hq hk
  cases r with
  | error e =>
    iterate 3 (refine hP _ ?_; conv => whnf)
    refine ⟨fun w => absurd w hr.flt_er.2, fun _ => ?_⟩
    have hk' : ∀ I' L', RH tx m I0 L0 true 0 (.error e) I' L' → P (282, [some (.ref 30)], [], (m_SH, I', L'), 0, 0) := hk
    exact (rd_s202 hC' hP) (.error e) J M hr (fun q e => by cases e) hk'
  | ok q =>
    have h20 := hq q rfl
    obtain ⟨r16, r01, r17, r012, r2⟩ := hr.2.2.2.1 rfl
    obtain ⟨r27, r28, r01', r29, r5, r46, r7⟩ := hr.2.2.2.2.2.2
    have hj : jlst tx (.ok q) = if ¬ q.val = 0 ∧ ¬ q.old = 0 ∧ ¬ q.set = -1 then jfal tx 10 (.ok q) else if ¬ q.val = 0 ∧ q.dfl < 0 ∧ (¬ q.srt = 2 ∨ q.lbs.length < (ccs q).length) then jfal tx 11 (.ok q) else if (tk tx (q.k + 1)).1 = 27 then .ok (q.wk (q.k + 1)) else jfal tx 2 (.ok (q.wk (q.k + 1))) := by
      unfold jlst
      simp only [jb]
      rw [if_neg (fun w => w h20)]
    rw [hj] at hk
    have no : ¬ (¬ q.val = 0 ∧ ¬ q.old = 0 ∧ ¬ q.set = -1) → P (202, [some (.ref 30)], [], (m_SH, J, M), 0, 0) := by
      intro g
      rw [if_neg g] at hk
      exact (rd_s202 hC' hP) (.ok q) J M hr (fun q e => by cases e; omega) hk
    repeat (refine hP _ ?_; conv => whnf)
    refine ⟨fun _ => ?_, fun w => absurd hr.flt_ok w⟩
    repeat (refine hP _ ?_; conv => whnf)
    rw [r16]
    refine ⟨fun w => no (fun y => y.1 w), fun w => ?_⟩
    repeat (refine hP _ ?_; conv => whnf)
    rw [r28]
    refine ⟨fun y => no (fun z => z.2.1 y), fun y => ?_⟩
    repeat (refine hP _ ?_; conv => whnf)
    rw [r46 rfl y]
    by_cases g : q.set = -1
    · rw [if_pos g]
      exact ⟨fun _ => no (fun z => z.2.2 g), fun z => absurd rfl z⟩
    · rw [if_neg g]
      refine ⟨fun z => absurd z (by decide), fun _ => ?_⟩
      rw [if_pos ⟨w, y, g⟩] at hk
      repeat (refine hP _ ?_; conv => whnf)
      refine h_wrong (a := 10) (n := n + 9) hC' hr (by decide) (by decide) (by decide) (fun I' h' => ?_)
      obtain ⟨e, he⟩ := jfal_err (tx := tx) (a := 10) (r := .ok q)
      rw [he] at h' hk
      exact (rd_s202 hC' hP) (.error e) I' M h' (fun q e => by cases e) hk
theorem rd_s148 {XL : Nat} {XS : Nat → Int32} {n : Nat} {C' : mC} {K : mK} {P : mT → Prop} {tx : List Nat} {m : Nat} {I0 : Nat → Nat → Int32} {L0 : Nat → Nat → Int64} (hC' : m_Ge XL XS (n + 10) C') (hP : ∀ t, m_F XL XS C' kX9_read (some .int) 0 0 0 K P t → P t) : ∀ (r : JRs) (J : Nat → Nat → Int32) (M : Nat → Nat → Int64), RH tx m I0 L0 true 0 r J M → (∀ I' L', RH tx m I0 L0 true 0 (jlst tx r) I' L' → P (282, [some (.ref 30)], [], (m_SH, I', L'), 0, 0)) → P (148, [some (.ref 30)], [], (m_SH, J, M), 0, 0) := by
  intro r J M hr hk
  cases r with
  | error e =>
    iterate 3 (refine hP _ ?_; conv => whnf)
    refine ⟨fun w => absurd w hr.flt_er.2, fun _ => ?_⟩
    exact (rd_s168 hC' hP) _ J M hr (fun q e => by cases e) hk
  | ok q =>
    repeat (refine hP _ ?_; conv => whnf)
    refine ⟨fun _ => ?_, fun w => absurd hr.flt_ok w⟩
    repeat (refine hP _ ?_; conv => whnf)
    refine h_isSign (k := 20) (n := n + 9) hC' hr (by decide) (by decide) ?_
    by_cases g20 : (tk tx q.k).1 = 20
    · rw [if_pos g20]
      iterate 1 (refine hP _ ?_; conv => whnf)
      refine ⟨fun w => absurd w (by decide), fun _ => ?_⟩
      exact (rd_s168 hC' hP) (.ok q) J M hr (fun q e => by cases e; exact g20) hk
    · rw [if_neg g20]
      repeat (refine hP _ ?_; conv => whnf)
      refine ⟨fun _ => ?_, fun w => absurd rfl w⟩
      repeat (refine hP _ ?_; conv => whnf)
      refine h_cannot (n := n + 8) hC' hr (fun I' h' => ?_)
      have hj : jlst tx (.ok q) = jfal tx 2 (.ok q) := by
        unfold jlst
        simp only [jb]
        rw [if_pos g20]
      obtain ⟨e, he⟩ := jfal_err (tx := tx) (a := 2) (r := .ok q)
      rw [he] at h' hj
      rw [hj] at hk
      exact (rd_s168 hC' hP) (.error e) I' M h' (fun q e => by cases e) hk
theorem rd_s117 {XL : Nat} {XS : Nat → Int32} {n : Nat} {C' : mC} {K : mK} {P : mT → Prop} {tx : List Nat} {m : Nat} {I0 : Nat → Nat → Int32} {L0 : Nat → Nat → Int64} (hC' : m_Ge XL XS (n + 10) C') (hP : ∀ t, m_F XL XS C' kX9_read (some .int) 0 0 0 K P t → P t) : ∀ (i : Nat) (r : JRs) (J : Nat → Nat → Int32) (M : Nat → Nat → Int64), RH tx m I0 L0 true 0 r J M → (∀ q, r = .ok q → Cb q ∧ 21 ≤ q.ars.length + i) → (∀ I' L', RH tx m I0 L0 true 0 (jlst tx (jarms tx false i r)) I' L' → P (282, [some (.ref 30)], [], (m_SH, I', L'), 0, 0)) → P (117, [some (.ref 30)], [], (m_SH, J, M), 0, 0) := by
  have err : ∀ (i : Nat) (e : Nat × Nat) (J : Nat → Nat → Int32) (M : Nat → Nat → Int64), RH tx m I0 L0 true 0 (.error e) J M → (∀ I' L', RH tx m I0 L0 true 0 (jlst tx (jarms tx false i (.error e))) I' L' → P (282, [some (.ref 30)], [], (m_SH, I', L'), 0, 0)) → P (117, [some (.ref 30)], [], (m_SH, J, M), 0, 0) := by
    intro i e J M hr hk
    rw [jarms_er] at hk
    iterate 3 (refine hP _ ?_; conv => whnf)
    refine ⟨fun w => absurd w hr.flt_er.2, fun _ => ?_⟩
    exact (rd_s148 hC' hP) _ J M hr hk
  intro i
  induction i with
  | zero =>
    intro r J M hr hq hk
    cases r with
    | error e => exact err 0 e J M hr hk
    | ok q =>
      have h1 := (hq q rfl).2
      have h2 : q.ars.length ≤ 20 := hr.2.2.2.2.1.2.2.1
      omega
  | succ i ih =>
    intro r J M hr hq hk
    cases r with
    | error e => exact err (i + 1) e J M hr hk
    | ok q =>
      obtain ⟨h1, h2⟩ := hq q rfl
      unfold jarms at hk
      have arm : ((tk tx q.k).1 = 6 ∨ (tk tx q.k).1 = 7) → P (141, [some (.ref 30)], [], (m_SH, J, M), 0, 0) := by
        intro g
        rw [if_pos (show jkd tx (.ok q) = 6 ∨ jkd tx (.ok q) = 7 from g)] at hk
        repeat (refine hP _ ?_; conv => whnf)
        refine r_readArm hC' hr g h1 (fun I2 L2 h3 => ?_)
        iterate 1 (refine hP _ ?_; conv => whnf)
        refine ih _ I2 L2 h3 (fun q2 e2 => ?_) hk
        obtain ⟨a1, a2⟩ := jarm_ok e2 h1
        refine ⟨a1, ?_⟩
        rw [a2, List.length_append, List.length_singleton]
        omega
      repeat (refine hP _ ?_; conv => whnf)
      refine ⟨fun _ => ?_, fun w => absurd hr.flt_ok w⟩
      repeat (refine hP _ ?_; conv => whnf)
      refine h_isWord (w := 5) (n := n + 9) hC' hr (by decide) ?_
      by_cases g6 : (tk tx q.k).1 = 6
      · rw [if_pos (show (tk tx q.k).1 = 5 + 1 from g6)]
        iterate 1 (refine hP _ ?_; conv => whnf)
        exact ⟨fun w => absurd w (by decide), fun _ => arm (Or.inl g6)⟩
      rw [if_neg (show ¬ (tk tx q.k).1 = 5 + 1 from g6)]
      repeat (refine hP _ ?_; conv => whnf)
      refine ⟨fun _ => ?_, fun w => absurd rfl w⟩
      repeat (refine hP _ ?_; conv => whnf)
      refine h_isWord (w := 6) (n := n + 9) hC' hr (by decide) ?_
      by_cases g7 : (tk tx q.k).1 = 7
      · rw [if_pos (show (tk tx q.k).1 = 6 + 1 from g7)]
        iterate 1 (refine hP _ ?_; conv => whnf)
        exact ⟨fun w => absurd w (by decide), fun _ => arm (Or.inr g7)⟩
      rw [if_neg (show ¬ (tk tx q.k).1 = 6 + 1 from g7)]
      rw [if_neg (show ¬ (jkd tx (.ok q) = 6 ∨ jkd tx (.ok q) = 7) from fun y => y.elim g6 g7)] at hk
      iterate 1 (refine hP _ ?_; conv => whnf)
      refine ⟨fun _ => ?_, fun w => absurd rfl w⟩
      exact (rd_s148 hC' hP) _ J M hr hk
theorem rd_s106 {XL : Nat} {XS : Nat → Int32} {n : Nat} {C' : mC} {K : mK} {P : mT → Prop} {tx : List Nat} {m : Nat} {I0 : Nat → Nat → Int32} {L0 : Nat → Nat → Int64} (hC' : m_Ge XL XS (n + 10) C') (hP : ∀ t, m_F XL XS C' kX9_read (some .int) 0 0 0 K P t → P t) {v t : Int32} : ∀ (r : JRs) (J : Nat → Nat → Int32) (M : Nat → Nat → Int64), RH tx m I0 L0 false 0 r J M → (∀ q, r = .ok q → En (js0 v t) q ∧ (nms q).Nodup) → (∀ I' L', RH tx m I0 L0 true 0 (jlst tx (jarms tx false 21 (jsel tx r))) I' L' → P (282, [some (.ref 30)], [], (m_SH, I', L'), 0, 0)) → P (106, [some (.ref 30)], [], (m_SH, J, M), 0, 0) := by
  intro r J M hr hq hk
  cases r with
  | error e =>
    iterate 3 (refine hP _ ?_; conv => whnf)
    refine ⟨fun w => absurd w hr.flt_er.2, fun _ => ?_⟩
    exact (rd_s117 hC' hP) 21 _ J M hr.anyE (fun q e => by cases e) hk
  | ok q =>
    obtain ⟨⟨e, k, hq1⟩, hq2⟩ := hq q rfl
    repeat (refine hP _ ?_; conv => whnf)
    refine ⟨fun _ => ?_, fun w => absurd hr.flt_ok w⟩
    repeat (refine hP _ ?_; conv => whnf)
    refine r_readHead (n := n + 5) hC' hr (by rw [hq1]; rfl) hq2 (fun I2 L2 h2 => ?_)
    refine (rd_s117 hC' hP) 21 _ I2 L2 h2 (fun q2 e2 => ?_) hk
    obtain ⟨a, b, c, d, k2, e3⟩ := jsel_ok e2
    rw [e3, hq1]
    exact ⟨Nat.zero_le _, Nat.le_refl _⟩
theorem rd_s84 {XL : Nat} {XS : Nat → Int32} {n : Nat} {C' : mC} {K : mK} {P : mT → Prop} {tx : List Nat} {m : Nat} {I0 : Nat → Nat → Int32} {L0 : Nat → Nat → Int64} (hC' : m_Ge XL XS (n + 10) C') (hP : ∀ t, m_F XL XS C' kX9_read (some .int) 0 0 0 K P t → P t) {v t : Int32} : ∀ (i : Nat) (r : JRs) (J : Nat → Nat → Int32) (M : Nat → Nat → Int64), RH tx m I0 L0 false 0 r J M → (∀ q, r = .ok q → En (js0 v t) q ∧ (nms q).Nodup ∧ 5 ≤ q.ens.length + i) → (∀ I' L', RH tx m I0 L0 true 0 (jlst tx (jarms tx false 21 (jsel tx (jens tx i r)))) I' L' → P (282, [some (.ref 30)], [], (m_SH, I', L'), 0, 0)) → P (84, [some (.ref 30)], [], (m_SH, J, M), 0, 0) := by
  have err : ∀ (i : Nat) (e : Nat × Nat) (J : Nat → Nat → Int32) (M : Nat → Nat → Int64), RH tx m I0 L0 false 0 (.error e) J M → (∀ I' L', RH tx m I0 L0 true 0 (jlst tx (jarms tx false 21 (jsel tx (jens tx i (.error e))))) I' L' → P (282, [some (.ref 30)], [], (m_SH, I', L'), 0, 0)) → P (84, [some (.ref 30)], [], (m_SH, J, M), 0, 0) := by
    intro i e J M hr hk
    rw [jens_er] at hk
    iterate 3 (refine hP _ ?_; conv => whnf)
    refine ⟨fun w => absurd w hr.flt_er.2, fun _ => ?_⟩
    exact (rd_s106 (v := v) (t := t) hC' hP) _ J M hr (fun q e => by cases e) hk
  intro i
  induction i with
  | zero =>
    intro r J M hr hq hk
    cases r with
    | error e => exact err 0 e J M hr hk
    | ok q =>
      have h1 := (hq q rfl).2.2
      have h2 : q.ens.length ≤ 4 := hr.2.2.1.2.1
      omega
  | succ i ih =>
    intro r J M hr hq hk
    cases r with
    | error e => exact err (i + 1) e J M hr hk
    | ok q =>
      obtain ⟨h1, h2, h3⟩ := hq q rfl
      unfold jens at hk
      repeat (refine hP _ ?_; conv => whnf)
      refine ⟨fun _ => ?_, fun w => absurd hr.flt_ok w⟩
      repeat (refine hP _ ?_; conv => whnf)
      refine h_isWord (w := 0) (n := n + 9) hC' hr (by decide) ?_
      by_cases g1 : (tk tx q.k).1 = 1
      · rw [if_pos (show (tk tx q.k).1 = 0 + 1 from g1)]
        rw [if_pos (show jkd tx (.ok q) = 1 from g1)] at hk
        repeat (refine hP _ ?_; conv => whnf)
        refine ⟨fun w => absurd w (by decide), fun _ => ?_⟩
        repeat (refine hP _ ?_; conv => whnf)
        refine r_readEnum (n := n + 4) hC' hr (by omega) (fun I2 L2 h4 => ?_)
        iterate 1 (refine hP _ ?_; conv => whnf)
        refine ih _ I2 L2 h4 (fun q2 e2 => ?_) hk
        obtain ⟨a1, a2, a3⟩ := jenm_ok (s := q.wk (q.k + 1)) e2 h2
        refine ⟨(h1.tr ⟨q.ens, q.k + 1, rfl⟩).tr a1, a2, ?_⟩
        have a3 : q2.ens.length = q.ens.length + 1 := a3
        omega
      · rw [if_neg (show ¬ (tk tx q.k).1 = 0 + 1 from g1)]
        rw [if_neg (show ¬ jkd tx (.ok q) = 1 from g1)] at hk
        iterate 1 (refine hP _ ?_; conv => whnf)
        refine ⟨fun _ => ?_, fun w => absurd rfl w⟩
        exact (rd_s106 (v := v) (t := t) hC' hP) (.ok q) J M hr (fun q e => by cases e; exact ⟨h1, h2⟩) hk
theorem r_read84 {XL : Nat} {XS : Nat → Int32} {n : Nat} {C' : mC} {K : mK} {P : mT → Prop} {tx : List Nat} {m : Nat} {v t : Int32} {I0 : Nat → Nat → Int32} {L0 : Nat → Nat → Int64} {I : Nat → Nat → Int32} {L : Nat → Nat → Int64} (hC' : m_Ge XL XS (n + 10) C') (hP : ∀ t, m_F XL XS C' kX9_read (some .int) 0 0 0 K P t → P t) (h : RH tx m I0 L0 false 0 (.ok (js0 v t)) I L) (hm : TkM tx m)
    (hK : ∀ I' L', RH tx m I0 L0 true 0 (jall tx false (js0 v t)) I' L' → P (282, [some (.ref 30)], [], (m_SH, I', L'), 0, 0)) : P (84, [some (.ref 30)], [], (m_SH, I, L), 0, 0) := by
  exact rd_s84 (v := v) (t := t) hC' hP 5 _ I L h (fun q e => by cases e; exact ⟨En.rf, List.nodup_nil, by omega⟩) hK
