/-! ===== what a judgement keeps ===== -/
def Ku (u : JU) (r : JRs) : Prop := ∀ s, r = .ok s → s.u = u
theorem Ku_er {u : JU} {e : Nat × Nat} : Ku u (.error e) := fun s h => by cases h
theorem Ku_b {u : JU} {r : JRs} {g : JSt → JRs} (h : Ku u r) (hg : ∀ s, r = .ok s → s.u = u → Ku u (g s)) : Ku u (jb r g) := by
  cases r with
  | ok s => exact hg s rfl (h s rfl)
  | error e => exact Ku_er
theorem Ku_ok {u : JU} {s : JSt} (h : s.u = u) : Ku u (.ok s) := fun s' e => by cases e; exact h
theorem Ku_adv {u : JU} {r : JRs} (h : Ku u r) : Ku u (jadv r) := Ku_b h fun s _ hs => Ku_ok hs
theorem Ku_fal {tx : List Nat} {n : Nat} {u : JU} {r : JRs} : Ku u (jfal tx n r) := by cases r <;> exact Ku_er
theorem Ku_xpc {tx : List Nat} {k : Nat} {u : JU} {r : JRs} (h : Ku u r) : Ku u (jxpc tx k r) := by
  unfold jxpc
  split
  · exact Ku_adv h
  · exact Ku_fal
theorem Ku_nmb {tx : List Nat} {u : JU} {r : JRs} (h : Ku u r) : Ku u (jnmb tx r) := by
  unfold jnmb
  split
  · exact Ku_adv h
  · exact Ku_fal
theorem Ku_emt {k a b : Int32} {u : JU} {r : JRs} (h : Ku u r) : Ku u (jemt k a b r) := Ku_b h fun s _ hs => by
  split
  · exact Ku_ok hs
  · exact Ku_ok hs
theorem Ku_led {i : Nat} {u : JU} {r : JRs} (h : Ku u r) : Ku u (jled i r) := Ku_b h fun s _ hs => Ku_ok hs
theorem Ku_sst {x : Int32} {u : JU} {r : JRs} (h : Ku u r) : Ku u (jsst x r) := Ku_b h fun s _ hs => Ku_ok hs
theorem Ku_stn {x y : Int32} {u : JU} {r : JRs} (h : Ku u r) : Ku u (jstn x y r) := Ku_b (Ku_emt h) fun s _ hs => Ku_ok hs
theorem Ku_lve {x y : Int32} {u : JU} {r : JRs} (h : Ku u r) : Ku u (jlve x y r) := Ku_sst (Ku_emt h)
theorem Ku_st1 {tx : List Nat} {u : JU} {r : JRs} (h : Ku u r) : Ku u (jst1 tx r) := by
  unfold jst1
  split
  · exact h
  · exact Ku_fal
theorem Ku_opn {tx : List Nat} {d : Nat} {u : JU} {r : JRs} (h : Ku u r) : Ku u (jopn tx d r) := fun s e => by
  obtain ⟨q, rfl, rfl, -⟩ := jopn_ok e
  exact h q rfl
theorem Ku_let {tx : List Nat} {u : JU} {r : JRs} (h : Ku u r) : Ku u (jlet tx r) := Ku_b h fun s _ hs => by
  have hl : (s.wnm (s.nm ++ [(tk tx s.k).2.2.1])).u = u := hs
  split
  · exact Ku_fal
  split
  · exact Ku_fal
  split
  · exact Ku_fal
  simp only
  split
  · exact Ku_stn (Ku_nmb (Ku_adv (Ku_adv (Ku_ok hl))))
  · exact Ku_adv (Ku_ok hl)
theorem Ku_use {tx : List Nat} {u : JU} {r : JRs} (h : Ku u r) : Ku u (juse tx r) := Ku_b h fun s _ hs => by
  split
  · exact Ku_fal
  split
  · exact Ku_fal
  · exact Ku_adv (Ku_emt h)
theorem Ku_yld {tx : List Nat} {u : JU} {r : JRs} (h : Ku u r) : Ku u (jyld tx r) := by
  unfold jyld
  split
  · exact Ku_lve (Ku_nmb (Ku_adv h))
  · exact Ku_lve (Ku_nmb h)
theorem Ku_smp {tx : List Nat} {u : JU} {r : JRs} (h : Ku u r) : Ku u (jsmp tx r) := by
  unfold jsmp
  repeat' split
  · exact Ku_emt (Ku_nmb (Ku_adv h))
  · exact Ku_use (Ku_adv h)
  · exact Ku_stn (Ku_nmb (Ku_xpc (Ku_adv h)))
  · exact Ku_lve (Ku_adv h)
  · exact Ku_lve (Ku_nmb (Ku_adv h))
theorem Ku_loop {tx : List Nat} {g : JRs → JRs} {u : JU} (hg : ∀ r, Ku u r → Ku u (g r)) : ∀ (i : Nat) (r : JRs), Ku u r → Ku u (jloop tx g i r)
  | 0, _, h => h
  | i + 1, r, h => by
    unfold jloop
    split
    · exact Ku_loop hg i _ (hg r h)
    · exact h
theorem Ku_shr {c : Nat} {u : JU} {r : JRs} (h : Ku u r) : Ku u (jshr c r) := Ku_b h fun s _ hs => Ku_ok hs
theorem Ku_brn {tx : List Nat} {g : JRs → JRs} {u : JU} {r : JRs} (hg : ∀ r, Ku u r → Ku u (g r)) (h : Ku u r) : Ku u (jbrn tx g r) := by
  have h1 : Ku u (jbr1 g r) := hg _ (Ku_adv (Ku_emt h))
  unfold jbrn
  split
  · exact Ku_sst (Ku_led (hg _ (Ku_adv (Ku_led (Ku_emt (Ku_sst h1))))))
  · exact Ku_sst (Ku_led (Ku_sst h1))
theorem Ku_stmt {tx : List Nat} {u : JU} : ∀ (f : Nat) (r : JRs), Ku u r → Ku u (jstmt tx f r)
  | 0, r, h => Ku_opn (Ku_st1 h)
  | f + 1, r, h => Ku_b (Ku_opn (Ku_st1 h)) fun s _ hs => by
    split
    · exact Ku_shr (Ku_xpc (Ku_loop (Ku_stmt f) 121 _ (Ku_adv (Ku_ok hs))))
    split
    · exact Ku_brn (Ku_stmt f) (Ku_ok hs)
    split
    · exact Ku_xpc (Ku_let (Ku_adv (Ku_ok hs)))
    split
    · exact Ku_xpc (Ku_yld (Ku_adv (Ku_ok hs)))
    · exact Ku_xpc (Ku_smp (Ku_ok hs))
theorem Ku_old {tx : List Nat} {s : JSt} : Ku s.u (jold tx s) := Ku_b (Ku_loop (Ku_stmt 11) 121 _ (Ku_ok rfl)) fun q _ hq => by
  split
  · exact Ku_ok hq
  · exact Ku_fal
theorem Ku_bdy {tx : List Nat} {s : JSt} : Ku s.u (jbdy tx s) := by
  unfold jbdy
  by_cases g19 : (tk tx s.k).1 = 19
  · rw [if_pos g19]
    refine Ku_b (Ku_opn (Ku_ok rfl)) fun q _ hq => ?_
    refine Ku_b (Ku_loop (Ku_stmt 10) 121 _ (Ku_ok hq)) fun y _ hy => ?_
    by_cases g20 : (tk tx y.k).1 = 20
    · rw [if_pos g20]
      by_cases g10 : ¬ y.val = 0 ∧ ¬ y.set = -1
      · rw [if_pos g10]; exact Ku_fal
      · rw [if_neg g10]; exact Ku_shr (Ku_adv (Ku_ok hy))
    · rw [if_neg g20]; exact Ku_fal
  rw [if_neg g19]
  by_cases gy : ¬ s.val = 0 ∧ ((tk tx s.k).1 = 25 ∨ (tk tx s.k).1 = 17)
  · rw [if_pos gy]
    refine Ku_sst (Ku_emt (Ku_xpc ?_))
    unfold jsgn
    split
    · exact Ku_nmb (Ku_adv (Ku_opn (Ku_ok rfl)))
    · exact Ku_nmb (Ku_opn (Ku_ok rfl))
  rw [if_neg gy]
  by_cases gs : (if s.val = 0 then ((tk tx s.k).1 = 16 ∨ (tk tx s.k).1 = 8 ∨ (tk tx s.k).1 = 10 ∨ (tk tx s.k).1 = 11 ∨ (tk tx s.k).1 = 13) else (tk tx s.k).1 = 13)
  · rw [if_pos gs]
    exact Ku_b (Ku_opn (Ku_ok rfl)) fun q _ hq => Ku_xpc (Ku_smp (Ku_ok hq))
  · rw [if_neg gs]
    exact Ku_fal
/-! an arm: how long the code is -/
def Cb (s : JSt) : Prop := s.cd.length ≤ 2 * s.sm + s.ars.length
theorem jold_gr {tx : List Nat} {s s' : JSt} (h : jold tx s = .ok s') : Gr0 s s' ∧ ((tk tx s'.k).1 = 20 ∨ (tk tx s'.k).1 = 6 ∨ (tk tx s'.k).1 = 7) := by
  unfold jold at h
  cases hl : jloop tx (jstmt tx 11) 121 (.ok s) with
  | error e => rw [hl] at h; cases h
  | ok y =>
    rw [hl] at h
    simp only [jb] at h
    by_cases g : (tk tx y.k).1 = 20 ∨ (tk tx y.k).1 = 6 ∨ (tk tx y.k).1 = 7
    · rw [if_pos g] at h
      cases h
      exact ⟨Gr_loop (Gr_stmt 11) _ _ _ hl, g⟩
    · rw [if_neg g] at h; cases h
theorem jam2_ok {tx : List Nat} {s s' : JSt} (h : jam2 tx s = .ok s') : s'.cd.length + 2 * s.sm ≤ s.cd.length + 1 + 2 * s'.sm ∧ ∃ o, s'.u = (s.wold o).u := by
  unfold jam2 at h
  by_cases k21 : (tk tx s.k).1 = 21
  · rw [if_pos k21] at h
    by_cases gm : 1 < s.ars.length ∧ s.old = 0
    · rw [if_pos gm] at h; cases h
    · rw [if_neg gm] at h
      have h1 := (jold_gr h).1
      have h2 := Ku_old (tx := tx) s' h
      unfold Gr0 at h1
      have e1 : (((s.wold 1).wk (s.k + 1)).wset 0).sm = s.sm := rfl
      have e2 : (((s.wold 1).wk (s.k + 1)).wset 0).cd = s.cd := rfl
      rw [e1, e2] at h1
      exact ⟨by omega, 1, h2⟩
  rw [if_neg k21] at h
  by_cases k26 : (tk tx s.k).1 = 26
  · rw [if_pos k26] at h
    by_cases gm : 1 < s.ars.length ∧ ¬ s.old = 0
    · rw [if_pos gm] at h; cases h
    · rw [if_neg gm] at h
      obtain ⟨q, hq, e⟩ := jemt_ok h
      have h1 := jbdy_gr hq
      have h2 := Ku_bdy (tx := tx) q hq
      have e1 : (((s.wold 0).wk (s.k + 1)).wset 0).sm = s.sm := rfl
      have e2 : (((s.wold 0).wk (s.k + 1)).wset 0).cd = s.cd := rfl
      rw [e1, e2] at h1
      rcases e with rfl | rfl
      · refine ⟨?_, 0, h2⟩
        have e3 : (semt 5 1 0 q).sm = q.sm := rfl
        rw [semt_len, e3]
        omega
      · exact ⟨by omega, 0, h2⟩
  rw [if_neg k26] at h
  cases h
theorem jarm_ok {tx : List Nat} {w : Bool} {s s' : JSt} (h : jarm tx w (.ok s) = .ok s') (hc : Cb s) : Cb s' ∧ s'.ars = s.ars ++ [s.cd.length] := by
  have hj : jarm tx w (.ok s) = if (tk tx s.k).1 = 7 ∧ ¬ s.dfl < 0 then jfal tx 3 (.ok s)
    else if 20 ≤ s.ars.length then jfal tx 12 (.ok s)
    else if (tk tx s.k).1 = 7 then jam2 tx (((s.wars (s.ars ++ [s.cd.length])).wdfl (nI s.ars.length)).wk (s.k + 1))
    else jb (jlbs tx w (.ok ((s.wars (s.ars ++ [s.cd.length])).wk (s.k + 1)))) (jam2 tx) := rfl
  rw [hj] at h
  by_cases c1 : (tk tx s.k).1 = 7 ∧ ¬ s.dfl < 0
  · rw [if_pos c1] at h; cases h
  rw [if_neg c1] at h
  by_cases c2 : 20 ≤ s.ars.length
  · rw [if_pos c2] at h; cases h
  rw [if_neg c2] at h
  have fin : ∀ q : JSt, q.ars = s.ars ++ [s.cd.length] → q.cd = s.cd → q.sm = s.sm → jam2 tx q = .ok s' → Cb s' ∧ s'.ars = s.ars ++ [s.cd.length] := by
    intro q e1 e2 e3 e4
    obtain ⟨g1, o, g2⟩ := jam2_ok e4
    have e5 : s'.ars = s.ars ++ [s.cd.length] := by
      have : s'.ars = q.ars := by unfold JSt.ars; rw [g2]; rfl
      rw [this, e1]
    refine ⟨?_, e5⟩
    unfold Cb at hc ⊢
    rw [e5, List.length_append, List.length_singleton]
    rw [e2, e3] at g1
    omega
  by_cases c3 : (tk tx s.k).1 = 7
  · rw [if_pos c3] at h
    exact fin (((s.wars (s.ars ++ [s.cd.length])).wdfl (nI s.ars.length)).wk (s.k + 1)) rfl rfl rfl h
  · rw [if_neg c3] at h
    cases hz : jlbs tx w (.ok ((s.wars (s.ars ++ [s.cd.length])).wk (s.k + 1))) with
    | error e => rw [hz] at h; cases h
    | ok q =>
      rw [hz] at h
      obtain ⟨l, k, e⟩ := jlbs_ok hz
      exact fin q (by rw [e]; rfl) (by rw [e]; rfl) (by rw [e]; rfl) h
/-! enumerations -/
def En (s s' : JSt) : Prop := ∃ e k, s' = (s.wens e).wk k
theorem En.tr {a b c : JSt} (h : En a b) (h2 : En b c) : En a c := by
  obtain ⟨e, k, rfl⟩ := h
  obtain ⟨e2, k2, rfl⟩ := h2
  exact ⟨e2, k2, rfl⟩
theorem En.rf {a : JSt} : En a a := ⟨a.ens, a.k, rfl⟩
def nms (s : JSt) : List (List Nat) := s.ens.map (fun x => x.1)
theorem acs_nms {c : List Nat} {s : JSt} : nms (acs c s) = nms s := by
  unfold nms
  show (s.ens.modify _ _).map _ = _
  apply List.ext_getElem?
  intro j
  rw [List.getElem?_map, List.getElem?_map, List.getElem?_modify]
  cases s.ens[j]? with
  | none => rfl
  | some x =>
    by_cases g : s.ens.length - 1 = j
    · simp [g]
    · simp [g]
theorem jcon_ok {tx : List Nat} {r : JRs} {s' : JSt} (h : jcon tx r = .ok s') : ∃ s, r = .ok s ∧ En s s' ∧ nms s' = nms s := by
  cases r with
  | error e => cases h
  | ok s =>
    have hjc : jcon tx (.ok s) = if ¬ (tk tx s.k).1 = 16 then jfal tx 2 (.ok s) else if jnam tx s ∈ lcs s then jfal tx 3 (.ok s) else if 16 ≤ (lcs s).length then jfal tx 12 (.ok s) else .ok ((acs (jnam tx s) s).wk (s.k + 1)) := rfl
    rw [hjc] at h
    split at h
    · cases h
    split at h
    · cases h
    split at h
    · cases h
    cases h
    exact ⟨s, rfl, ⟨_, _, rfl⟩, acs_nms⟩
theorem jclp_ok {tx : List Nat} : ∀ (i : Nat) (r : JRs) (s' : JSt), jclp tx i r = .ok s' → ∃ s, r = .ok s ∧ En s s' ∧ nms s' = nms s
  | 0, r, s', h => ⟨s', h, En.rf, rfl⟩
  | i + 1, r, s', h => by
    unfold jclp at h
    split at h
    · obtain ⟨a, h1, h2, h3⟩ := jclp_ok i _ s' h
      obtain ⟨b, h4, h5, h6⟩ := jcon_ok h1
      cases r with
      | error e => cases h4
      | ok s =>
        cases h4
        exact ⟨s, rfl, (En.tr ⟨s.ens, s.k + 1, rfl⟩ h5).tr h2, h3.trans h6⟩
    · exact ⟨s', h, En.rf, rfl⟩
theorem jenm_ok {tx : List Nat} {s s' : JSt} (h : jenm tx (.ok s) = .ok s') (hn : (nms s).Nodup) : En s s' ∧ (nms s').Nodup ∧ s'.ens.length = s.ens.length + 1 := by
  have hj : jenm tx (.ok s) = if ¬ (tk tx s.k).1 = 16 then jfal tx 2 (.ok s) else if jnam tx s ∈ nms s then jfal tx 3 (.ok s) else if 4 ≤ s.ens.length then jfal tx 12 (.ok s) else jxpc tx 20 (jclp tx 16 (jcon tx (jxpc tx 19 (jadv (.ok (s.wens (s.ens ++ [(jnam tx s, [])]))))))) := rfl
  rw [hj] at h
  by_cases c1 : ¬ (tk tx s.k).1 = 16
  · rw [if_pos c1] at h; cases h
  rw [if_neg c1] at h
  by_cases c2 : jnam tx s ∈ nms s
  · rw [if_pos c2] at h; cases h
  rw [if_neg c2] at h
  by_cases c3 : 4 ≤ s.ens.length
  · rw [if_pos c3] at h; cases h
  rw [if_neg c3] at h
  obtain ⟨a, h1, h2, -⟩ := jxpc_ok h
  obtain ⟨b, h3, h4, h5⟩ := jclp_ok _ _ _ h1
  obtain ⟨c, h6, h7, h8⟩ := jcon_ok h3
  obtain ⟨d, h9, h10, -⟩ := jxpc_ok h6
  cases h9
  have e1 : nms s' = nms s ++ [jnam tx s] := by
    have : nms s' = nms a := by rw [h2]; rfl
    rw [this, h5, h8, h10]
    show (s.ens ++ [_]).map _ = _
    rw [List.map_append]
    rfl
  refine ⟨?_, ?_, ?_⟩
  · have q1 : En s c := by rw [h10]; exact ⟨_, _, rfl⟩
    have q2 : En a s' := by rw [h2]; exact ⟨a.ens, _, rfl⟩
    exact ((q1.tr h7).tr h4).tr q2
  · rw [e1]
    rw [List.nodup_append]
    refine ⟨hn, by simp, fun x hx y hy => ?_⟩
    rw [List.mem_singleton.mp hy]
    intro z
    rw [z] at hx
    exact c2 hx
  · have := congrArg List.length e1
    unfold nms at this
    rw [List.length_append, List.length_map, List.length_map] at this
    exact this
