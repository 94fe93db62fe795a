/-! ===== what stays so from arm to arm ===== -/
def AI (s : JSt) : Prop := (s.srt = 2 → ∃ e, e < s.ens.length ∧ s.chs = nI e ∧ s.cns = nI (ccs s).length ∧ (ccs s).length ≤ 16) ∧ (¬ s.srt = 2 → s.cns = 0) ∧ (s.old = 0 → s.nm = []) ∧ (s.old = 0 ∨ s.old = 1) ∧ (s.ars.length = 0 → s.old = 0) ∧ (s.srt = 2 → (∀ y ∈ s.lbs, ∃ i, i < (ccs s).length ∧ y.2.1 = nI i) ∧ (s.lbs.map (fun y => y.2.1.toNatClampNeg)).Nodup)
theorem AI.of {s s' : JSt} (h : AI s) (h1 : s'.srt = s.srt) (h2 : s'.ens = s.ens) (h3 : s'.chs = s.chs) (h4 : s'.cns = s.cns) (h5 : s'.old = 0 → s'.nm = []) (h6 : s'.old = 0 ∨ s'.old = 1) (h7 : s'.ars.length = 0 → s'.old = 0) (h8 : s'.lbs = s.lbs) : AI s' := by
  have hc : ccs s' = ccs s := by unfold ccs; rw [h2, h3]
  obtain ⟨a1, a2, a3, a4, a5, a6⟩ := h
  refine ⟨?_, ?_, h5, h6, h7, ?_⟩
  · rw [h1, h2, h3, h4, hc]; exact a1
  · rw [h1, h4]; exact a2
  · rw [h1, h8, hc]; exact a6
theorem jlab_ok2 {tx : List Nat} {w : Bool} {s s' : JSt} (h : jlab tx w (.ok s) = .ok s') : ∃ x cs k, s' = (s.wlbs (s.lbs ++ [(s.ars.length - 1, x, cs)])).wk k ∧ jdup s x cs = false ∧ (s.srt = 2 → ∃ i, i < (ccs s).length ∧ x = nI i) := by
  have hb2 : ∀ (q : JSt) (j : Nat) (x : Int32) (cs : List Nat), q.u = s.u → jlb2 tx j x cs q = .ok s' → jdup s x cs = false := by
    intro q j x cs hu h
    unfold jlb2 at h
    by_cases c1 : jdup q x cs = true
    · rw [if_pos c1] at h; cases h
    · have : jdup s x cs = jdup q x cs := by unfold jdup JSt.srt JSt.lbs; rw [hu]
      rw [this]
      simpa using c1
  have hj : jlab tx w (.ok s) = if (tk tx s.k).1 = 25 then
    (if ¬ s.srt = 0 then jfal tx 5 (.ok s)
     else if (tk tx (s.k + 1)).1 = 17 then jlb2 tx s.k (-(nI (tk tx (s.k + 1)).2.2.2.1)) [] (s.wk (s.k + 1))
     else if w = true ∧ 32 ≤ s.lbs.length then jfal tx 12 (.ok s)
     else jfal tx 2 (.ok (s.wk (s.k + 1))))
  else if (tk tx s.k).1 = 17 then (if s.srt = 0 then jlb2 tx s.k (nI (tk tx s.k).2.2.2.1) [] s else jfal tx 5 (.ok s))
  else if (tk tx s.k).1 = 18 then (if s.srt = 1 then jlb2 tx s.k (jhs (jnam tx s)) (jnam tx s) s else jfal tx 5 (.ok s))
  else if (tk tx s.k).1 = 16 then (if s.srt = 2 ∧ jnam tx s ∈ ccs s then jlb2 tx s.k (nI ((ccs s).idxOf (jnam tx s))) [] s else jfal tx 5 (.ok s))
  else jfal tx 2 (.ok s) := rfl
  rw [hj] at h
  by_cases g25 : (tk tx s.k).1 = 25
  · rw [if_pos g25] at h
    by_cases g0 : ¬ s.srt = 0
    · rw [if_pos g0] at h; cases h
    rw [if_neg g0] at h
    by_cases g17 : (tk tx (s.k + 1)).1 = 17
    · rw [if_pos g17] at h
      have e := jlb2_ok h
      exact ⟨_, _, _, e, hb2 (s.wk (s.k + 1)) _ _ _ rfl h, fun q => absurd (show ¬ s.srt = 0 by rw [q]; decide) g0⟩
    rw [if_neg g17] at h
    by_cases gw : w = true ∧ 32 ≤ s.lbs.length
    · rw [if_pos gw] at h; cases h
    · rw [if_neg gw] at h; cases h
  rw [if_neg g25] at h
  by_cases g17 : (tk tx s.k).1 = 17
  · rw [if_pos g17] at h
    by_cases g0 : s.srt = 0
    · rw [if_pos g0] at h
      exact ⟨_, _, _, jlb2_ok h, hb2 _ _ _ _ rfl h, fun q => absurd (g0.symm.trans q) (by decide)⟩
    · rw [if_neg g0] at h; cases h
  rw [if_neg g17] at h
  by_cases g18 : (tk tx s.k).1 = 18
  · rw [if_pos g18] at h
    by_cases g0 : s.srt = 1
    · rw [if_pos g0] at h
      exact ⟨_, _, _, jlb2_ok h, hb2 _ _ _ _ rfl h, fun q => absurd (g0.symm.trans q) (by decide)⟩
    · rw [if_neg g0] at h; cases h
  rw [if_neg g18] at h
  by_cases g16 : (tk tx s.k).1 = 16
  · rw [if_pos g16] at h
    by_cases g0 : s.srt = 2 ∧ jnam tx s ∈ ccs s
    · rw [if_pos g0] at h
      exact ⟨_, _, _, jlb2_ok h, hb2 _ _ _ _ rfl h, fun _ => ⟨_, List.idxOf_lt_length_iff.mpr g0.2, rfl⟩⟩
    · rw [if_neg g0] at h; cases h
  rw [if_neg g16] at h
  cases h
theorem AI_lab {tx : List Nat} {w : Bool} {s s' : JSt} (hA : AI s) (h : jlab tx w (.ok s) = .ok s') : AI s' := by
  obtain ⟨x, cs, k, e, hd, hx⟩ := jlab_ok2 h
  obtain ⟨a1, a2, a3, a4, a5, a6⟩ := hA
  rw [e]
  refine ⟨a1, a2, a3, a4, a5, fun q => ?_⟩
  have q : s.srt = 2 := q
  obtain ⟨b1, b2⟩ := a6 q
  obtain ⟨i, i1, i2⟩ := hx q
  obtain ⟨e0, -, -, -, c16⟩ := a1 q
  have hcc : ccs ((s.wlbs (s.lbs ++ [(s.ars.length - 1, x, cs)])).wk k) = ccs s := rfl
  have hlb : ((s.wlbs (s.lbs ++ [(s.ars.length - 1, x, cs)])).wk k).lbs = s.lbs ++ [(s.ars.length - 1, x, cs)] := rfl
  rw [hcc, hlb]
  refine ⟨fun y hy => ?_, ?_⟩
  · rcases List.mem_append.mp hy with hy | hy
    · exact b1 y hy
    · rw [List.mem_singleton.mp hy]; exact ⟨i, i1, i2⟩
  · rw [List.map_append, List.nodup_append]
    refine ⟨b2, by simp, fun a ha b hb => ?_⟩
    simp at hb
    subst hb
    intro z
    obtain ⟨y, y1, y2⟩ := List.mem_map.mp ha
    obtain ⟨j, j1, j2⟩ := b1 y y1
    rw [← y2, j2, i2, nI_clamp (by omega), nI_clamp (by omega)] at z
    have : jdup s x cs = true := by
      unfold jdup
      rw [if_neg (by rw [q]; decide)]
      refine List.any_eq_true.mpr ⟨y, y1, ?_⟩
      rw [j2, i2, z]
      exact beq_self_eq_true _
    rw [hd] at this
    cases this
theorem AI_llp {tx : List Nat} {w : Bool} : ∀ (i : Nat) (s s' : JSt), AI s → jllp tx w i (.ok s) = .ok s' → AI s'
  | 0, s, s', hA, h => by cases h; exact hA
  | i + 1, s, s', hA, h => by
    unfold jllp at h
    split at h
    · cases hz : jlab tx w (jadv (.ok s)) with
      | error e => rw [hz, jllp_er] at h; cases h
      | ok q =>
        rw [hz] at h
        exact AI_llp i q s' (AI_lab (s := s.wk (s.k + 1)) hA hz) h
    · cases h; exact hA
theorem AI_lbs {tx : List Nat} {w : Bool} {s s' : JSt} (hA : AI s) (h : jlbs tx w (.ok s) = .ok s') : AI s' := by
  unfold jlbs at h
  cases hz : jlab tx w (.ok s) with
  | error e => rw [hz, jllp_er] at h; cases h
  | ok q =>
    rw [hz] at h
    exact AI_llp _ q s' (AI_lab hA hz) h
theorem AI_am2 {tx : List Nat} {s s' : JSt} (hA : s.old = 0 → s.nm = []) (h2 : s.ars.length ≤ 1 → s.old = 0) (hl : 0 < s.ars.length) (hA1 : AI s) (h : jam2 tx s = .ok s') : AI s' := by
  have fin : ∀ o, (o = 0 ∨ o = 1) → s'.u = (s.wold o).u → (o = 0 → s'.nm = []) → AI s' := by
    intro o ho hu hn
    have e1 : s'.ens = s.ens := by unfold JSt.ens; rw [hu]; rfl
    have e3 : s'.srt = s.srt := by unfold JSt.srt; rw [hu]; rfl
    have e4 : s'.chs = s.chs := by unfold JSt.chs; rw [hu]; rfl
    have e5 : s'.cns = s.cns := by unfold JSt.cns; rw [hu]; rfl
    have e7 : s'.old = o := by unfold JSt.old; rw [hu]; rfl
    have e8 : s'.ars = s.ars := by unfold JSt.ars; rw [hu]; rfl
    have e9 : s'.lbs = s.lbs := by unfold JSt.lbs; rw [hu]; rfl
    exact hA1.of e3 e1 e4 e5 (by rw [e7]; exact hn) (by rw [e7]; exact ho) (by rw [e8]; intro; omega) e9
  unfold jam2 at h
  by_cases k21 : (tk tx s.k).1 = 21
  · rw [if_pos k21] at h
    by_cases gm : 1 < s.ars.length ∧ s.old = 0
    · rw [if_pos gm] at h; cases h
    · rw [if_neg gm] at h
      exact fin 1 (Or.inr rfl) (Ku_old (tx := tx) (s := ((s.wold 1).wk (s.k + 1)).wset 0) s' h) (fun q => absurd q (by decide))
  rw [if_neg k21] at h
  by_cases k26 : (tk tx s.k).1 = 26
  · rw [if_pos k26] at h
    by_cases gm : 1 < s.ars.length ∧ ¬ s.old = 0
    · rw [if_pos gm] at h; cases h
    · rw [if_neg gm] at h
      have hold : s.old = 0 := by
        by_cases y : 1 < s.ars.length
        · exact Classical.byContradiction (fun t => gm ⟨y, t⟩)
        · exact h2 (by omega)
      have hnm : s.nm = [] := hA hold
      have hnb := Nn_emt (k := 5) (x := 1) (y := 0) (Nn_bdy (tx := tx) (s := ((s.wold 0).wk (s.k + 1)).wset 0) hnm)
      have hkb := Ku_emt (k := 5) (a := 1) (b := 0) (Ku_bdy (tx := tx) (s := ((s.wold 0).wk (s.k + 1)).wset 0))
      exact fin 0 (Or.inl rfl) (hkb s' h) (fun _ => hnb s' h)
  rw [if_neg k26] at h
  cases h
theorem AI_arm {tx : List Nat} {w : Bool} {s s' : JSt} (hA : AI s) (h : jarm tx w (.ok s) = .ok s') : AI s' := by
  have hj : jarm tx w (.ok s) = if (tk tx s.k).1 = 7 ∧ ¬ s.dfl < 0 then jfal tx 3 (.ok s)
    else if 20 ≤ s.ars.length then jfal tx 12 (.ok s)
    else if (tk tx s.k).1 = 7 then jam2 tx (((s.wars (s.ars ++ [s.cd.length])).wdfl (nI s.ars.length)).wk (s.k + 1))
    else jb (jlbs tx w (.ok ((s.wars (s.ars ++ [s.cd.length])).wk (s.k + 1)))) (jam2 tx) := rfl
  rw [hj] at h
  have hlen : (s.ars ++ [s.cd.length]).length = s.ars.length + 1 := by rw [List.length_append]; rfl
  have hA2 : AI ((s.wars (s.ars ++ [s.cd.length])).wk (s.k + 1)) := hA.of rfl rfl rfl rfl hA.2.2.1 hA.2.2.2.1 (fun q => by
    have q : (s.ars ++ [s.cd.length]).length = 0 := q
    omega) rfl
  by_cases c1 : (tk tx s.k).1 = 7 ∧ ¬ s.dfl < 0
  · rw [if_pos c1] at h; cases h
  rw [if_neg c1] at h
  by_cases c2 : 20 ≤ s.ars.length
  · rw [if_pos c2] at h; cases h
  rw [if_neg c2] at h
  by_cases c3 : (tk tx s.k).1 = 7
  · rw [if_pos c3] at h
    refine AI_am2 (s := ((s.wars (s.ars ++ [s.cd.length])).wdfl (nI s.ars.length)).wk (s.k + 1)) hA.2.2.1 (fun q => ?_) ?_ (hA2.of rfl rfl rfl rfl hA.2.2.1 hA.2.2.2.1 (fun q => ?_) rfl) h
    · have q : (s.ars ++ [s.cd.length]).length ≤ 1 := q
      exact hA.2.2.2.2.1 (by omega)
    · show 0 < (s.ars ++ [s.cd.length]).length
      omega
    · have q : (s.ars ++ [s.cd.length]).length = 0 := q
      omega
  · rw [if_neg c3] at h
    cases hz : jlbs tx w (.ok ((s.wars (s.ars ++ [s.cd.length])).wk (s.k + 1))) with
    | error e => rw [hz] at h; cases h
    | ok q =>
      rw [hz] at h
      have hAq := AI_lbs hA2 hz
      obtain ⟨l, k, e⟩ := jlbs_ok hz
      have e1 : q.ars = s.ars ++ [s.cd.length] := by rw [e]; rfl
      have e2 : q.old = s.old := by rw [e]; rfl
      exact AI_am2 hAq.2.2.1 (fun t => by rw [e1] at t; rw [e2]; exact hA.2.2.2.2.1 (by omega)) (by rw [e1]; omega) hAq h
/-- as many labels as constants at most -/
theorem nd_le : ∀ (c : Nat) (l : List Nat), l.Nodup → (∀ x ∈ l, x < c) → l.length ≤ c
  | 0, l, _, h => by
    cases l with
    | nil => exact Nat.le_refl _
    | cons x r => exact absurd (h x List.mem_cons_self) (Nat.not_lt_zero _)
  | c + 1, l, hn, h => by
    by_cases g : c ∈ l
    · have h1 := nd_le c (l.erase c) (hn.erase c) (fun x hx => by
        have h2 := (List.Nodup.mem_erase_iff hn).mp hx
        have h3 := h x h2.2
        have := h2.1
        omega)
      rw [List.length_erase_of_mem g] at h1
      omega
    · have h1 := nd_le c l hn (fun x hx => by
        have h3 := h x hx
        have : ¬ x = c := fun z => g (z ▸ hx)
        omega)
      omega
theorem AI.len {s : JSt} (h : AI s) (h2 : s.srt = 2) : s.lbs.length ≤ (ccs s).length := by
  obtain ⟨b1, b2⟩ := h.2.2.2.2.2 h2
  obtain ⟨e, -, -, -, c16⟩ := h.1 h2
  have := nd_le (ccs s).length _ b2 (fun x hx => by
    obtain ⟨y, y1, y2⟩ := List.mem_map.mp hx
    obtain ⟨j, j1, j2⟩ := b1 y y1
    rw [← y2, j2, nI_clamp (by omega)]
    exact j1)
  rw [List.length_map] at this
  exact this
