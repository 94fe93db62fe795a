/-! ===== the class's world and that state ===== -/
def S_jd : Nat → Nat → Bool := fun p q => (p == 8 && q != 0) || p == 9 || p == 10 || p == 11 || (p == 13 && q == 3) || p == 14 || p == 15 || p == 16 || p == 17 || p == 18 || p == 21
def S_jdL : Nat → Nat → Bool := fun p _ => p == 12 || p == 19 || p == 20 || p == 22
/-- how large the rows may be, always -/
def BD (I : Nat → Nat → Int32) : Prop := (∃ c, c ≤ 260 ∧ I 13 3 = nI c) ∧ (∃ c, c ≤ 20 ∧ I 18 1 = nI c) ∧ (∃ c, c ≤ 32 ∧ I 8 5 = nI c) ∧ (∃ c, c ≤ 20 ∧ I 8 4 = nI c) ∧ (∃ c, c ≤ 4 ∧ I 17 6 = nI c) ∧ (∀ e, e < 4 → ∃ c, c ≤ 16 ∧ I 21 e = nI c) ∧ (I 17 7 = -1 ∨ ∃ c, c < 4 ∧ I 17 7 = nI c)
def CNm (s : JSt) (I : Nat → Nat → Int32) (L : Nat → Nat → Int64) : Prop := I 18 1 = nI s.nm.length ∧ s.nm.length ≤ 20 ∧ (∀ j, j < s.nm.length → L 19 j = lN (pkB 256 (s.nm.getD j []))) ∧ (∀ c ∈ s.nm, NmOk c)
def CCd (s : JSt) (I : Nat → Nat → Int32) : Prop := I 13 3 = nI s.cd.length ∧ s.cd.length ≤ 260 ∧ (∀ j, j < s.cd.length → s.cd[j]? = some (I 14 j, I 15 j, I 16 j))
def CAr (u : JU) (I : Nat → Nat → Int32) : Prop := I 8 4 = nI u.2.1.length ∧ u.2.1.length ≤ 20 ∧ (∀ j, j < u.2.1.length → I 9 j = nI (u.2.1.getD j 0))
def lsg (sort : Int32) (x : Int32) (cs : List Nat) : Int64 := if sort = 1 then lN (pkB 256 cs) else x.toInt64
def CLb (u : JU) (I : Nat → Nat → Int32) (L : Nat → Nat → Int64) : Prop := I 8 5 = nI u.2.2.1.length ∧ u.2.2.1.length ≤ 32 ∧ (∀ j x, u.2.2.1[j]? = some x → I 10 j = nI x.1 ∧ I 11 j = x.2.1 ∧ L 12 j = lsg u.1.2.1 x.2.1 x.2.2) ∧ (u.1.2.1 = 1 → ∀ x ∈ u.2.2.1, NmOk x.2.2)
def CEn (u : JU) (I : Nat → Nat → Int32) (L : Nat → Nat → Int64) : Prop := I 17 6 = nI u.2.2.2.length ∧ u.2.2.2.length ≤ 4 ∧ (∀ e x, u.2.2.2[e]? = some x → L 20 e = lN (pkB 256 x.1) ∧ NmOk x.1 ∧ I 21 e = nI x.2.length ∧ x.2.length ≤ 16 ∧ (∀ j, j < x.2.length → L 22 (e * 16 + j) = lN (pkB 256 (x.2.getD j []))) ∧ ∀ c ∈ x.2, NmOk c)
def CU (u : JU) (I : Nat → Nat → Int32) (L : Nat → Nat → Int64) : Prop := (I 8 1 = u.1.1 ∧ I 8 2 = u.1.2.1 ∧ I 17 7 = u.1.2.2.1 ∧ I 8 3 = u.1.2.2.2.1 ∧ I 8 7 = u.1.2.2.2.2.1 ∧ I 8 8 = u.1.2.2.2.2.2) ∧ CAr u I ∧ CLb u I L ∧ CEn u I L
def CS (m : Nat) (s : JSt) (I : Nat → Nat → Int32) (L : Nat → Nat → Int64) : Prop := (I 17 9 = 0 ∧ I 17 10 = -1 ∧ I 17 8 = nI s.k ∧ s.k ≤ m) ∧ (I 8 6 = nI s.sm ∧ s.sm ≤ 120) ∧ I 18 2 = s.set ∧ CNm s I L ∧ CCd s I ∧ CU s.u I L
def CX (tx : List Nat) (m : Nat) (I0 : Nat → Nat → Int32) (L0 : Nat → Nat → Int64) (r : JRs) (I : Nat → Nat → Int32) (L : Nat → Nat → Int64) : Prop :=
  (TxOk tx ∧ TkM tx m ∧ m ≤ tx.length ∧ TkC tx m I L) ∧ Fr S_jd I0 I ∧ Fr S_jdL L0 L ∧ BD I ∧ (match r with
  | .ok s => CS m s I L
  | .error e => e.1 ≠ 0 ∧ e.1 ≤ 12 ∧ I 17 9 = nI e.1 ∧ I 17 10 = nI e.2)
theorem tk_lt {tx : List Nat} {m k : Nat} (h : TkM tx m) (hk : k ≤ m) (h1 : ¬ (tk tx k).1 = 27) (h2 : ¬ (tk tx k).1 = 28) : k < m := by
  by_cases e : k = m
  · subst e
    rcases h.1 with q | q
    · exact absurd q h1
    · exact absurd q h2
  · omega
theorem sgN_lt29 (x : Int32) : sgN x < 29 := by
  unfold sgN
  repeat' split
  all_goals decide
theorem tok_lt29 (tx : List Nat) (i : Nat) : (tokAt tx i).1 < 29 := by
  have := wordIx_le (cs := slice tx i (scan qN tx i))
  have := sgN_lt29 (toc tx i)
  unfold tokAt
  repeat' split
  all_goals simp only
  all_goals omega
theorem tk_kd_lt (tx : List Nat) (i : Nat) : (tk tx i).1 < 2 ^ 31 := by
  have : (tk tx i).1 < 29 := tok_lt29 tx _
  omega
theorem jkd_29 (tx : List Nat) (r : JRs) : jkd tx r < 29 := by
  cases r with
  | ok s => exact tok_lt29 tx _
  | error e => exact (by decide : 0 < 29)
theorem jkd_lt (tx : List Nat) (r : JRs) : jkd tx r < 2 ^ 31 := by
  have := jkd_29 tx r
  omega
theorem CX.kd {tx : List Nat} {m : Nat} {I0 : Nat → Nat → Int32} {L0 : Nat → Nat → Int64} {r : JRs} {I : Nat → Nat → Int32} {L : Nat → Nat → Int64} (h : CX tx m I0 L0 r I L) : kindF I = nI (jkd tx r) := by
  obtain ⟨⟨ht, hm, hml, htk⟩, -, -, -, h⟩ := h
  unfold kindF
  cases r with
  | ok s =>
    obtain ⟨⟨h1, -, h2, h3⟩, -⟩ := h
    have hl := ht.1
    rw [if_pos h1, h2, if_neg (nI_pos (by omega)), htk.1, if_pos (nI_lt (by omega) (by omega)), if_pos (show nI s.k < 3001 from nI_lt (a := s.k) (b := 3001) (by omega) (by omega)), nI_clamp (by omega), (htk.2 s.k h3).1]
    rfl
  | error e =>
    obtain ⟨h1, h2, h3, -⟩ := h
    rw [if_neg (by rw [h3]; exact fun z => h1 ((nI_eq (a := e.1) (b := 0) (by omega) (by omega)).mp z))]
    rfl
theorem CX.ft {tx : List Nat} {m : Nat} {I0 : Nat → Nat → Int32} {L0 : Nat → Nat → Int64} {r : JRs} {I : Nat → Nat → Int32} {L : Nat → Nat → Int64} (h : CX tx m I0 L0 r I L) : I 17 9 = 0 ↔ ∃ s, r = .ok s := by
  obtain ⟨-, -, -, -, h⟩ := h
  cases r with
  | ok s => exact ⟨fun _ => ⟨s, rfl⟩, fun _ => h.1.1⟩
  | error e =>
    obtain ⟨h1, h2, h3, -⟩ := h
    exact ⟨fun z => absurd ((nI_eq (a := e.1) (b := 0) (by omega) (by omega)).mp (h3.symm.trans z)) h1, fun ⟨s, z⟩ => by cases z⟩
theorem CX.gen {tx : List Nat} {m : Nat} {I0 : Nat → Nat → Int32} {L0 : Nat → Nat → Int64} {r : JRs} {I : Nat → Nat → Int32} {L : Nat → Nat → Int64} {r' : JRs} {I' : Nat → Nat → Int32} {L' : Nat → Nat → Int64} (h : CX tx m I0 L0 r I L) (hF : Fr S_jd I I') (hL : Fr S_jdL L L') (hB : BD I → BD I')
    (hok : ∀ s, r = .ok s → CS m s I L → TkM tx m → match r' with | .ok s' => CS m s' I' L' | .error e => e.1 ≠ 0 ∧ e.1 ≤ 12 ∧ I' 17 9 = nI e.1 ∧ I' 17 10 = nI e.2)
    (her : ∀ e, r = .error e → r' = .error e ∧ I' 17 9 = I 17 9 ∧ I' 17 10 = I 17 10) : CX tx m I0 L0 r' I' L' := by
  obtain ⟨⟨ht, hm, hml, htk⟩, h1, h2, h3, h⟩ := h
  refine ⟨⟨ht, hm, hml, ?_, fun k hk => ?_⟩, h1.tr hF, h2.tr hL, hB h3, ?_⟩
  · rw [hF 3 4 rfl]; exact htk.1
  · rw [hF 4 k rfl, hF 5 k rfl, hL 6 k rfl]; exact htk.2 k hk
  · cases r with
    | ok s => exact hok s rfl h hm
    | error e =>
      obtain ⟨q1, q2, q3⟩ := her e rfl
      subst q1
      simp only at h ⊢
      rw [q2, q3]
      exact h
theorem CX.adv {tx : List Nat} {m : Nat} {I0 : Nat → Nat → Int32} {L0 : Nat → Nat → Int64} {r : JRs} {I : Nat → Nat → Int32} {L : Nat → Nat → Int64} (h : CX tx m I0 L0 r I L) (hk : ∀ s, r = .ok s → ¬ (tk tx s.k).1 = 27 ∧ ¬ (tk tx s.k).1 = 28) : CX tx m I0 L0 (jadv r) (m_up I 17 8 (I 17 8 + 1)) L := by
  refine h.gen (Fr.rf.up rfl) Fr.rf (by simp [BD, m_upr]) (fun s e q hm => ?_) (fun e q => by subst q; simp [jadv, jb, m_upr])
  subst e
  obtain ⟨⟨a1, a2, a3, a4⟩, q⟩ := q
  have := tk_lt hm a4 (hk s rfl).1 (hk s rfl).2
  refine ⟨⟨by simp [m_upr, a1], by simp [m_upr, a2], by simp [m_upr, a3, nI_1, JSt.k, JSt.sm, JSt.set, JSt.nm, JSt.cd, JSt.u, JSt.val, JSt.wk, JSt.wsm, JSt.wset, JSt.wnm, JSt.wcd, JSt.wu], this⟩, ?_⟩
  simpa [CS, CNm, CCd, CU, CAr, CLb, CEn, m_upr, JSt.k, JSt.sm, JSt.set, JSt.nm, JSt.cd, JSt.u, JSt.val, JSt.wk, JSt.wsm, JSt.wset, JSt.wnm, JSt.wcd, JSt.wu] using q
theorem CX.failAt {tx : List Nat} {m : Nat} {I0 : Nat → Nat → Int32} {L0 : Nat → Nat → Int64} {r : JRs} {I : Nat → Nat → Int32} {L : Nat → Nat → Int64} {a j : Nat} (h : CX tx m I0 L0 r I L) (ha0 : a ≠ 0) (ha : a ≤ 12) (hj : j ≤ m) : CX tx m I0 L0 (jflt tx a j r) (failF (nI a) (nI j) I) L := by
  have hjt : j < 3001 := by have := h.1.1.1; have := h.1.2.2.1; omega
  have htj := h.1.2.2.2.2 j hj
  have hFr : Fr S_jd I (failF (nI a) (nI j) I) := by
    unfold failF
    repeat' split
    all_goals first | exact Fr.rf | exact (Fr.rf.up rfl).up rfl
  refine h.gen hFr Fr.rf (fun hb => ?_) (fun s e q hm => ?_) (fun e q => ?_)
  · unfold failF
    repeat' split
    all_goals first | exact hb | simpa [BD, m_upr] using hb
  · subst e
    have h0 := q.1.1
    unfold failF
    rw [if_pos h0, if_neg (nI_pos (by omega)), if_pos (show nI j < 3001 from nI_lt (a := j) (b := 3001) hjt (by omega)), nI_clamp (by omega), htj.1, htj.2.1]
    have e2 : nI a = 2 ↔ a = 2 := nI_eq (a := a) (b := 2) (by omega) (by omega)
    have hkb : (tk tx j).1 < 2 ^ 31 := tk_kd_lt tx j
    have e28 : nI (tk tx j).1 = 28 ↔ (tk tx j).1 = 28 := nI_eq (a := (tk tx j).1) (b := 28) hkb (by omega)
    simp only [jflt, jb]
    by_cases g : a = 2
    · rw [if_pos (e2.mpr g)]
      by_cases g2 : (tk tx j).1 = 28
      · rw [if_pos (e28.mpr g2), if_pos ⟨g, g2⟩]
        refine ⟨by decide, by decide, by simp [m_upr]; rfl, by simp [m_upr]⟩
      · rw [if_neg (fun z => g2 (e28.mp z)), if_neg (fun z => g2 z.2)]
        exact ⟨ha0, ha, by simp [m_upr], by simp [m_upr]⟩
    · rw [if_neg (fun z => g (e2.mp z)), if_neg (fun z => g z.1)]
      exact ⟨ha0, ha, by simp [m_upr], by simp [m_upr]⟩
  · subst q
    have : ¬ I 17 9 = 0 := fun z => by obtain ⟨s, hs⟩ := h.ft.mp z; cases hs
    unfold failF
    rw [if_neg this]
    exact ⟨rfl, rfl, rfl⟩
theorem CX.ok {tx : List Nat} {m : Nat} {I0 : Nat → Nat → Int32} {L0 : Nat → Nat → Int64} {I : Nat → Nat → Int32} {L : Nat → Nat → Int64} {s : JSt} (h : CX tx m I0 L0 (.ok s) I L) : CS m s I L := h.2.2.2.2
theorem CX.at_ok {tx : List Nat} {m : Nat} {I0 : Nat → Nat → Int32} {L0 : Nat → Nat → Int64} {I : Nat → Nat → Int32} {L : Nat → Nat → Int64} {s : JSt} (h : CX tx m I0 L0 (.ok s) I L) : I 17 8 = nI s.k := h.ok.1.2.2.1
theorem CX.km_ok {tx : List Nat} {m : Nat} {I0 : Nat → Nat → Int32} {L0 : Nat → Nat → Int64} {I : Nat → Nat → Int32} {L : Nat → Nat → Int64} {s : JSt} (h : CX tx m I0 L0 (.ok s) I L) : s.k ≤ m := h.ok.1.2.2.2
theorem CX.fail_er {tx : List Nat} {m : Nat} {I0 : Nat → Nat → Int32} {L0 : Nat → Nat → Int64} {I : Nat → Nat → Int32} {L : Nat → Nat → Int64} {a : Int32} {j : Int32} {e : Nat × Nat} (h : CX tx m I0 L0 (.error e) I L) : failF a j I = I := by
  have : ¬ I 17 9 = 0 := fun z => by obtain ⟨s, hs⟩ := h.ft.mp z; cases hs
  unfold failF
  rw [if_neg this]
theorem jfal_ok {tx : List Nat} {a : Nat} {s : JSt} : jfal tx a (.ok s) = jflt tx a s.k (.ok s) := by
  simp only [jfal, jflt, jb]
theorem CX.fail_ok {tx : List Nat} {m : Nat} {I0 : Nat → Nat → Int32} {L0 : Nat → Nat → Int64} {I : Nat → Nat → Int32} {L : Nat → Nat → Int64} {a : Nat} {s : JSt} (h : CX tx m I0 L0 (.ok s) I L) (ha0 : a ≠ 0) (ha : a ≤ 12) : CX tx m I0 L0 (jfal tx a (.ok s)) (failF (nI a) (I 17 8) I) L := by
  rw [jfal_ok, h.at_ok]
  exact h.failAt ha0 ha h.km_ok
theorem CX.fail {tx : List Nat} {m : Nat} {I0 : Nat → Nat → Int32} {L0 : Nat → Nat → Int64} {r : JRs} {I : Nat → Nat → Int32} {L : Nat → Nat → Int64} {a : Nat} (h : CX tx m I0 L0 r I L) (ha0 : a ≠ 0) (ha : a ≤ 12) : CX tx m I0 L0 (jfal tx a r) (failF (nI a) (I 17 8) I) L := by
  cases r with
  | ok s => exact h.fail_ok ha0 ha
  | error e =>
    rw [h.fail_er, jfal_er]
    exact h
theorem CX.xpc {tx : List Nat} {m : Nat} {I0 : Nat → Nat → Int32} {L0 : Nat → Nat → Int64} {r : JRs} {I : Nat → Nat → Int32} {L : Nat → Nat → Int64} {a : Nat} (h : CX tx m I0 L0 r I L) (ha0 : a ≠ 0) (ha : a < 27) : CX tx m I0 L0 (jxpc tx a r) (expF (nI a) I) L := by
  unfold expF jxpc
  rw [h.kd]
  have hkb : jkd tx r < 2 ^ 31 := jkd_lt tx r
  by_cases e : jkd tx r = a
  · rw [if_pos e, if_pos (congrArg nI e)]
    refine h.adv (fun s hs => ?_)
    subst hs
    have : (tk tx s.k).1 = a := e
    omega
  · rw [if_neg (fun z => e ((nI_eq hkb (by omega)).mp z)), if_neg e]
    exact h.fail (by decide) (by decide)
theorem CX.bd {tx : List Nat} {m : Nat} {I0 : Nat → Nat → Int32} {L0 : Nat → Nat → Int64} {r : JRs} {I : Nat → Nat → Int32} {L : Nat → Nat → Int64} (h : CX tx m I0 L0 r I L) : BD I := h.2.2.2.1
theorem CX.cl0 {tx : List Nat} {m : Nat} {I0 : Nat → Nat → Int32} {L0 : Nat → Nat → Int64} {r : JRs} {I : Nat → Nat → Int32} {L : Nat → Nat → Int64} (h : CX tx m I0 L0 r I L) : ¬ I 13 3 < 0 := by
  obtain ⟨c, hc, e⟩ := h.bd.1
  rw [e]
  exact nI_pos (by omega)
theorem CX.emt {tx : List Nat} {m : Nat} {I0 : Nat → Nat → Int32} {L0 : Nat → Nat → Int64} {r : JRs} {I : Nat → Nat → Int32} {L : Nat → Nat → Int64} {k a b : Int32} (h : CX tx m I0 L0 r I L) (hk : vp_nar .byte k.toInt8.toInt32 = k) : CX tx m I0 L0 (jemt k a b r) (stepF k a b I) L := by
  have hFr : Fr S_jd I (stepF k a b I) := by
    unfold stepF
    split
    · exact (((Fr.rf.up rfl).up rfl).up rfl).up rfl
    · exact Fr.rf
  refine h.gen hFr Fr.rf (fun hb => ?_) (fun s e q hm => ?_) (fun e q => ?_)
  · unfold stepF
    split
    · rename_i hlt
      obtain ⟨⟨c, hc, e⟩, hb⟩ := hb
      rw [e] at hlt
      have := (nI_ltI (a := c) (b := 260) (by omega) (by omega)).mp hlt
      refine ⟨⟨c + 1, by omega, by simp [m_upr, e, nI_1]⟩, ?_⟩
      simpa [BD, m_upr] using hb
    · exact hb
  · subst e
    obtain ⟨q1, q2, q3, q4, ⟨c1, c2, c3⟩, q5⟩ := q
    show CS m (if s.cd.length < 260 then s.wcd (s.cd ++ [(k, a, b)]) else s) (stepF k a b I) L
    unfold stepF
    rw [c1]
    by_cases hlt : s.cd.length < 260
    · rw [if_pos (show nI s.cd.length < 260 from nI_lt (a := s.cd.length) (b := 260) hlt (by omega)), nI_clamp (by omega), hk, if_pos hlt]
      refine ⟨by simpa [m_upr, JSt.k, JSt.sm, JSt.set, JSt.nm, JSt.cd, JSt.u, JSt.val, JSt.wk, JSt.wsm, JSt.wset, JSt.wnm, JSt.wcd, JSt.wu] using q1, by simpa [m_upr, JSt.k, JSt.sm, JSt.set, JSt.nm, JSt.cd, JSt.u, JSt.val, JSt.wk, JSt.wsm, JSt.wset, JSt.wnm, JSt.wcd, JSt.wu] using q2, by simpa [m_upr, JSt.k, JSt.sm, JSt.set, JSt.nm, JSt.cd, JSt.u, JSt.val, JSt.wk, JSt.wsm, JSt.wset, JSt.wnm, JSt.wcd, JSt.wu] using q3, by simpa [CNm, m_upr, JSt.k, JSt.sm, JSt.set, JSt.nm, JSt.cd, JSt.u, JSt.val, JSt.wk, JSt.wsm, JSt.wset, JSt.wnm, JSt.wcd, JSt.wu] using q4, ⟨?_, ?_, fun j hj => ?_⟩, by simpa [CU, CAr, CLb, CEn, m_upr, JSt.k, JSt.sm, JSt.set, JSt.nm, JSt.cd, JSt.u, JSt.val, JSt.wk, JSt.wsm, JSt.wset, JSt.wnm, JSt.wcd, JSt.wu] using q5⟩
      · show _ = nI (s.cd ++ [(k, a, b)]).length
        rw [List.length_append]
        simp [m_upr, nI_1]
      · show (s.cd ++ [(k, a, b)]).length ≤ 260
        rw [List.length_append, List.length_singleton]; omega
      · show (s.cd ++ [(k, a, b)])[j]? = _
        have hj2 : j < s.cd.length + 1 := by
          have : j < (s.cd ++ [(k, a, b)]).length := hj
          rw [List.length_append, List.length_singleton] at this
          exact this
        by_cases hjl : j = s.cd.length
        · subst hjl
          simp [m_upr]
        · have := c3 j (by omega)
          rw [List.getElem?_append_left (by omega), this]
          simp [m_upr, hjl]
    · rw [if_neg (show ¬ nI s.cd.length < 260 from fun z => hlt ((nI_ltI (a := s.cd.length) (b := 260) (by omega) (by omega)).mp z)), if_neg hlt]
      exact ⟨q1, q2, q3, q4, ⟨c1, c2, c3⟩, q5⟩
  · subst q
    refine ⟨rfl, ?_, ?_⟩ <;> · unfold stepF; split <;> simp [m_upr]
theorem CX.led {tx : List Nat} {m : Nat} {I0 : Nat → Nat → Int32} {L0 : Nat → Nat → Int64} {r : JRs} {I : Nat → Nat → Int32} {L : Nat → Nat → Int64} {i : Nat} (h : CX tx m I0 L0 r I L) (hi : i ≤ 260) : CX tx m I0 L0 (jled i r) (leadF (nI i) I) L := by
  have hFr : Fr S_jd I (leadF (nI i) I) := by
    unfold leadF
    repeat' split
    all_goals first | exact Fr.rf | exact Fr.rf.up rfl
  refine h.gen hFr Fr.rf (fun hb => ?_) (fun s e q hm => ?_) (fun e q => ?_)
  · unfold leadF
    repeat' split
    all_goals first | exact hb | simpa [BD, m_upr] using hb
  · subst e
    obtain ⟨q1, q2, q3, q4, ⟨c1, c2, c3⟩, q5⟩ := q
    show CS m (s.wcd (s.cd.modify i (fun x => (x.1, nI s.cd.length, x.2.2)))) (leadF (nI i) I) L
    unfold leadF
    rw [c1, if_neg (nI_pos (by omega))]
    by_cases hlt : i < s.cd.length
    · rw [if_pos (nI_lt hlt (by omega)), nI_clamp (by omega)]
      refine ⟨by simpa [m_upr, JSt.k, JSt.sm, JSt.set, JSt.nm, JSt.cd, JSt.u, JSt.val, JSt.wk, JSt.wsm, JSt.wset, JSt.wnm, JSt.wcd, JSt.wu] using q1, by simpa [m_upr, JSt.k, JSt.sm, JSt.set, JSt.nm, JSt.cd, JSt.u, JSt.val, JSt.wk, JSt.wsm, JSt.wset, JSt.wnm, JSt.wcd, JSt.wu] using q2, by simpa [m_upr, JSt.k, JSt.sm, JSt.set, JSt.nm, JSt.cd, JSt.u, JSt.val, JSt.wk, JSt.wsm, JSt.wset, JSt.wnm, JSt.wcd, JSt.wu] using q3, by simpa [CNm, m_upr, JSt.k, JSt.sm, JSt.set, JSt.nm, JSt.cd, JSt.u, JSt.val, JSt.wk, JSt.wsm, JSt.wset, JSt.wnm, JSt.wcd, JSt.wu] using q4, ⟨?_, ?_, fun j hj => ?_⟩, by simpa [CU, CAr, CLb, CEn, m_upr, JSt.k, JSt.sm, JSt.set, JSt.nm, JSt.cd, JSt.u, JSt.val, JSt.wk, JSt.wsm, JSt.wset, JSt.wnm, JSt.wcd, JSt.wu] using q5⟩
      · show _ = nI (s.cd.modify i _).length
        rw [List.length_modify]
        simp [m_upr, c1]
      · show (s.cd.modify i _).length ≤ 260
        rw [List.length_modify]; exact c2
      · show (s.cd.modify i _)[j]? = _
        have hj2 : j < s.cd.length := by
          have : j < (s.cd.modify i (fun x => (x.1, nI s.cd.length, x.2.2))).length := hj
          rw [List.length_modify] at this
          exact this
        rw [List.getElem?_modify, c3 j hj2]
        by_cases hji : i = j
        · subst hji; simp [m_upr]
        · have hji2 : ¬ j = i := fun z => hji z.symm
          simp [m_upr, hji, hji2]
    · rw [if_neg (fun z => hlt ((nI_ltI (by omega) (by omega)).mp z))]
      have hm : s.cd.modify i (fun x => (x.1, nI s.cd.length, x.2.2)) = s.cd := by
        apply List.ext_getElem?
        intro j
        rw [List.getElem?_modify]
        by_cases hji : i = j
        · subst hji
          rw [List.getElem?_eq_none (by omega)]
          simp
        · simp [hji]
      rw [hm]
      exact ⟨q1, q2, q3, q4, ⟨c1, c2, c3⟩, q5⟩
  · subst q
    refine ⟨rfl, ?_, ?_⟩ <;> · unfold leadF; repeat' split
                               all_goals simp [m_upr]
theorem CX.sst {tx : List Nat} {m : Nat} {I0 : Nat → Nat → Int32} {L0 : Nat → Nat → Int64} {r : JRs} {I : Nat → Nat → Int32} {L : Nat → Nat → Int64} {x y : Int32} (h : CX tx m I0 L0 r I L) (hxy : ∀ s, r = .ok s → x = y) : CX tx m I0 L0 (jsst y r) (m_up I 18 2 x) L := by
  refine h.gen (Fr.rf.up rfl) Fr.rf (by simp [BD, m_upr]) (fun s e q hm => ?_) (fun e q => by subst q; simp [jsst, jb, m_upr])
  subst e
  have := hxy s rfl
  subst this
  obtain ⟨q1, q2, q3, q4⟩ := q
  refine ⟨by simpa [m_upr, JSt.k, JSt.sm, JSt.set, JSt.nm, JSt.cd, JSt.u, JSt.val, JSt.wk, JSt.wsm, JSt.wset, JSt.wnm, JSt.wcd, JSt.wu] using q1, by simpa [m_upr, JSt.k, JSt.sm, JSt.set, JSt.nm, JSt.cd, JSt.u, JSt.val, JSt.wk, JSt.wsm, JSt.wset, JSt.wnm, JSt.wcd, JSt.wu] using q2, by simp [m_upr, JSt.k, JSt.sm, JSt.set, JSt.nm, JSt.cd, JSt.u, JSt.val, JSt.wk, JSt.wsm, JSt.wset, JSt.wnm, JSt.wcd, JSt.wu], ?_⟩
  simpa [CS, CNm, CCd, CU, CAr, CLb, CEn, m_upr, JSt.k, JSt.sm, JSt.set, JSt.nm, JSt.cd, JSt.u, JSt.val, JSt.wk, JSt.wsm, JSt.wset, JSt.wnm, JSt.wcd, JSt.wu] using q4
theorem CX.shr {tx : List Nat} {m : Nat} {I0 : Nat → Nat → Int32} {L0 : Nat → Nat → Int64} {r : JRs} {I : Nat → Nat → Int32} {L : Nat → Nat → Int64} {c : Nat} (h : CX tx m I0 L0 r I L) (hc : c ≤ 20) (hge : jge c r) : CX tx m I0 L0 (jshr c r) (shrinkF (nI c) I) L := by
  have hFr : Fr S_jd I (shrinkF (nI c) I) := by
    unfold shrinkF
    split
    · exact Fr.rf.up rfl
    · exact (Fr.rf.up rfl).up rfl
  refine h.gen hFr Fr.rf (fun hb => ?_) (fun s e q hm => ?_) (fun e q => ?_)
  · unfold shrinkF
    obtain ⟨b1, b2, b3⟩ := hb
    split
    all_goals exact ⟨by simpa [m_upr] using b1, ⟨c, hc, by simp [m_upr]⟩, by simpa [m_upr] using b3⟩
  · subst e
    have hl : c ≤ s.nm.length := hge s rfl
    have hlt : (s.nm.take c).length = c := by rw [List.length_take]; omega
    obtain ⟨q1, q2, q3, ⟨n1, n2, n3, n4⟩, q5, q6⟩ := q
    have key : ∀ J : Nat → Nat → Int32, J 18 1 = nI c → CNm ((s.wnm (s.nm.take c)).wset (if s.set = -1 then -1 else s.set &&& ((1 <<< (nI c &&& 31)) - 1))) J L := by
      intro J hJ
      have hnm : ((s.wnm (s.nm.take c)).wset (if s.set = -1 then -1 else s.set &&& ((1 <<< (nI c &&& 31)) - 1))).nm = s.nm.take c := rfl
      unfold CNm
      rw [hnm, hlt]
      refine ⟨hJ, hc, fun j hj => ?_, fun x hx => n4 x (List.mem_of_mem_take hx)⟩
      rw [n3 j (by omega)]
      congr 2
      rw [List.getD_eq_getElem?_getD, List.getD_eq_getElem?_getD, List.getElem?_take_of_lt hj]
    show CS m ((s.wnm (s.nm.take c)).wset (if s.set = -1 then -1 else s.set &&& ((1 <<< (nI c &&& 31)) - 1))) (shrinkF (nI c) I) L
    by_cases g : s.set = -1
    · have hs : shrinkF (nI c) I = m_up I 18 1 (nI c) := by unfold shrinkF; rw [q3, if_pos g]
      rw [hs]
      refine ⟨by simpa [m_upr, JSt.k, JSt.sm, JSt.set, JSt.nm, JSt.cd, JSt.u, JSt.val, JSt.wk, JSt.wsm, JSt.wset, JSt.wnm, JSt.wcd, JSt.wu] using q1, by simpa [m_upr, JSt.k, JSt.sm, JSt.set, JSt.nm, JSt.cd, JSt.u, JSt.val, JSt.wk, JSt.wsm, JSt.wset, JSt.wnm, JSt.wcd, JSt.wu] using q2, ?_, key _ (by simp [m_upr]), by simpa [CCd, m_upr, JSt.k, JSt.sm, JSt.set, JSt.nm, JSt.cd, JSt.u, JSt.val, JSt.wk, JSt.wsm, JSt.wset, JSt.wnm, JSt.wcd, JSt.wu] using q5, by simpa [CU, CAr, CLb, CEn, m_upr, JSt.k, JSt.sm, JSt.set, JSt.nm, JSt.cd, JSt.u, JSt.val, JSt.wk, JSt.wsm, JSt.wset, JSt.wnm, JSt.wcd, JSt.wu] using q6⟩
      show _ = if s.set = -1 then -1 else _
      rw [if_pos g]
      simp [m_upr, q3, g]
    · have hs : shrinkF (nI c) I = m_up (m_up I 18 1 (nI c)) 18 2 (s.set &&& ((1 <<< (nI c &&& 31)) - 1)) := by unfold shrinkF; rw [q3, if_neg g]
      rw [hs]
      refine ⟨by simpa [m_upr, JSt.k, JSt.sm, JSt.set, JSt.nm, JSt.cd, JSt.u, JSt.val, JSt.wk, JSt.wsm, JSt.wset, JSt.wnm, JSt.wcd, JSt.wu] using q1, by simpa [m_upr, JSt.k, JSt.sm, JSt.set, JSt.nm, JSt.cd, JSt.u, JSt.val, JSt.wk, JSt.wsm, JSt.wset, JSt.wnm, JSt.wcd, JSt.wu] using q2, ?_, key _ (by simp [m_upr]), by simpa [CCd, m_upr, JSt.k, JSt.sm, JSt.set, JSt.nm, JSt.cd, JSt.u, JSt.val, JSt.wk, JSt.wsm, JSt.wset, JSt.wnm, JSt.wcd, JSt.wu] using q5, by simpa [CU, CAr, CLb, CEn, m_upr, JSt.k, JSt.sm, JSt.set, JSt.nm, JSt.cd, JSt.u, JSt.val, JSt.wk, JSt.wsm, JSt.wset, JSt.wnm, JSt.wcd, JSt.wu] using q6⟩
      show _ = if s.set = -1 then -1 else _
      rw [if_neg g]
      simp [m_upr]
  · subst q
    refine ⟨rfl, ?_, ?_⟩ <;> · unfold shrinkF; split <;> simp [m_upr]
