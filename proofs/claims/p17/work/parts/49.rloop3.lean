/-! ===== a stmt, at the loop's head ===== -/
def HdP (P : mT → Prop) (base : Nat) (I : Nat → Nat → Int32) (L : Nat → Nat → Int64) : Prop := ∀ l : Option Value, P (0, [some (.ref 30), some (.int (nI base)), l], [], (m_SH, I, L), 0, 0)
/-- what must be so at the loop's head -/
def Hd (tx : List Nat) (m : Nat) (I0 : Nat → Nat → Int32) (L0 : Nat → Nat → Int64) (u0 : JU) (base B f : Nat) (st : List Fm) (s : JSt) (I : Nat → Nat → Int32) (L : Nat → Nat → Int64) : Prop :=
  RX tx m I0 L0 u0 260 st (.ok s) I L ∧ Ends st s I ∧ SetOk s ∧ (lst st ∧ base < st.length ∧ st.length ≤ dep st + 1 ∧ dep st + f = 11 ∧ ¬ isB st) ∧ s.cd.length + nth st ≤ 2 * s.sm + B
def L1 (P : mT → Prop) (tx : List Nat) (m : Nat) (I0 : Nat → Nat → Int32) (L0 : Nat → Nat → Int64) (u0 : JU) (base B f : Nat) : Prop := ∀ (st : List Fm) (s : JSt) (I : Nat → Nat → Int32) (L : Nat → Nat → Int64), Hd tx m I0 L0 u0 base B f st s I L → Rch st s →
  (jbgn (tk tx s.k).1 = true ∨ ∃ x r, st = x :: r ∧ (x.1 = 2 ∨ x.1 = 3)) →
  (∀ e I' L', jstmt tx f (.ok s) = .error e → RX tx m I0 L0 u0 263 [] (.error e) I' L' → HdP P base I' L') →
  (∀ s' I' L', jstmt tx f (.ok s) = .ok s' → RX tx m I0 L0 u0 263 (thr tx st s').2 (.ok (thr tx st s').1) I' L' → Ends (thr tx st s').2 (thr tx st s').1 I' → SetOk (thr tx st s').1 → HdP P base I' L') → HdP P base I L
theorem isB_no {st : List Fm} (h : ¬ isB st) : ∀ x r, st = x :: r → ¬ x.1 = 4 := fun x r e z => h (by rw [e]; exact isB_c.mpr z)
theorem r_headH {XL : Nat} {XS : Nat → Int32} {n : Nat} {C' : mC} {K : mK} {P : mT → Prop} {tx : List Nat} {m : Nat} {I0 : Nat → Nat → Int32} {L0 : Nat → Nat → Int64} {u0 : JU} {base B f : Nat} {st : List Fm} {I : Nat → Nat → Int32} {L : Nat → Nat → Int64} {s : JSt} (hC' : m_Ge XL XS (n + 7) C') (hP : ∀ t, m_F XL XS C' kX9_readStmts none 0 0 0 K P t → P t) (hB : B ≤ 20)
    (h : Hd tx m I0 L0 u0 base B f st s I L) (hR : Rch st s) (hT : ∀ x r, st = x :: r → (x.1 = 1 → ¬ (tk tx s.k).1 = 20) ∧ (x.1 = 0 → ¬ (tk tx s.k).1 = 20 ∧ ¬ (tk tx s.k).1 = 6 ∧ ¬ (tk tx s.k).1 = 7))
    (hK : ∀ I' L', POne tx m I0 L0 u0 263 (jone tx st s) I' L' → HdP P base I' L') : HdP P base I L := by
  intro l
  obtain ⟨h1, h2, h3, ⟨h4, h5, h6, h7, h8⟩, h9⟩ := h
  exact r_headS hC' hP h1 (by omega) h2 hR h3 h4 (by omega) (by omega) (by omega) h5 (fun x r e => ⟨(hT x r e).1, (hT x r e).2, isB_no h8 x r e⟩) (fun I' L' l h' => hK I' L' h' l)
theorem r_L2 {P : mT → Prop} {tx : List Nat} {m : Nat} {I0 : Nat → Nat → Int32} {L0 : Nat → Nat → Int64} {u0 : JU} {base B f : Nat} (hB : B ≤ 20) (H1 : L1 P tx m I0 L0 u0 base B f) : ∀ (i : Nat) (x : Fm) (st : List Fm) (s : JSt) (I : Nat → Nat → Int32) (L : Nat → Nat → Int64),
    (x.1 = 0 ∨ x.1 = 1) → Hd tx m I0 L0 u0 base B f (x :: st) s I L → 121 ≤ s.sm + i →
    (∀ e I' L', jloop tx (jstmt tx f) i (.ok s) = .error e → RX tx m I0 L0 u0 263 [] (.error e) I' L' → HdP P base I' L') →
    (∀ s' I' L', jloop tx (jstmt tx f) i (.ok s) = .ok s' → jbgn (tk tx s'.k).1 = false → Hd tx m I0 L0 u0 base B f (x :: st) s' I' L' → HdP P base I' L') → HdP P base I L
  | 0, x, st, s, I, L, hx, h, hi, he, hk => by
    have := h.1.ok.2.1.2
    omega
  | i + 1, x, st, s, I, L, hx, h, hi, he, hk => by
    unfold jloop at he hk
    by_cases g : jbgn (jkd tx (.ok s)) = true
    · rw [if_pos g] at he hk
      have ht : ∀ s', thr tx (x :: st) s' = (s', x :: st) := by
        intro s'
        rw [thr, if_neg (by omega), if_neg (by omega)]
      refine H1 (x :: st) s I L h (hx.elim Or.inl (fun z => Or.inr (Or.inl z))) (Or.inl g) (fun e I' L' e1 h1 => ?_) (fun s' I' L' e1 h1 h2 h3 => ?_)
      · exact he e I' L' (by rw [e1]; exact jloop_er i) h1
      · rw [ht] at h1 h2 h3
        have h1 : RX tx m I0 L0 u0 263 (x :: st) (.ok s') I' L' := h1
        have hg := Gr_stmt f s s' e1
        unfold Gr at hg
        obtain ⟨q1, q2, q3, q4, q5⟩ := h
        have hsm := h1.ok.2.1.2
        have hH : Hd tx m I0 L0 u0 base B f (x :: st) s' I' L' := ⟨h1.tight (by omega) (by omega), h2, h3, q4, by omega⟩
        rw [e1] at he hk
        exact r_L2 hB H1 i x st s' I' L' hx hH (by omega) he hk
    · rw [if_neg g] at hk
      exact hk s I L rfl (Bool.eq_false_iff.mpr g) h
theorem jst1_y {tx : List Nat} {s : JSt} (h : jbgn (tk tx s.k).1 = true) : jst1 tx (.ok s) = .ok s := by
  unfold jst1
  rw [if_pos (show jbgn (jkd tx (.ok s)) = true from h)]
theorem jst1_n {tx : List Nat} {s : JSt} (h : ¬ jbgn (tk tx s.k).1 = true) : jst1 tx (.ok s) = jfal tx 2 (.ok s) := by
  unfold jst1
  rw [if_neg (show ¬ jbgn (jkd tx (.ok s)) = true from h)]
theorem jopn_er {tx : List Nat} {d : Nat} {e : Nat × Nat} : jopn tx d (.error e) = .error e := rfl
theorem jopn_11 {tx : List Nat} {d : Nat} {r : JRs} (hd : 10 < d) : ∃ e, jopn tx d r = .error e := by
  cases h : jopn tx d r with
  | error e => exact ⟨e, rfl⟩
  | ok s =>
    obtain ⟨q, -, -, h3⟩ := jopn_ok h
    omega
theorem jone_n {tx : List Nat} {st : List Fm} {s : JSt} (h : ¬ jbgn (tk tx s.k).1 = true) : jone tx st s = jlf tx st (jfal tx 2 (.ok s)) := by
  have hb : ¬ (tk tx s.k).1 = 19 ∧ ¬ (tk tx s.k).1 = 14 ∧ ¬ (tk tx s.k).1 = 9 ∧ ¬ (tk tx s.k).1 = 12 := by
    simp [jbgn] at h
    omega
  unfold jone
  rw [if_neg hb.1, if_neg hb.2.1, if_neg hb.2.2.1, if_neg hb.2.2.2, if_neg h]
theorem jone_e {tx : List Nat} {st : List Fm} {s : JSt} {e : Nat × Nat} (h : jbgn (tk tx s.k).1 = true) (he : jopn tx (dep st) (.ok s) = .error e) : jone tx st s = .error e := by
  unfold jone
  rw [he]
  by_cases g19 : (tk tx s.k).1 = 19
  · rw [if_pos g19]
  rw [if_neg g19]
  by_cases g14 : (tk tx s.k).1 = 14
  · rw [if_pos g14]
  rw [if_neg g14]
  by_cases g9 : (tk tx s.k).1 = 9
  · rw [if_pos g9]; rfl
  rw [if_neg g9]
  by_cases g12 : (tk tx s.k).1 = 12
  · rw [if_pos g12]; rfl
  rw [if_neg g12, if_pos h]
  rfl
theorem jbrn_er1 {tx : List Nat} {g : JRs → JRs} {s : JSt} {e : Nat × Nat} (he : ∀ e, g (.error e) = .error e) (h : g (jadv (jemt 3 0 0 (.ok s))) = .error e) : jbrn tx g (.ok s) = .error e := by
  have hb1 : jbr1 g (.ok s) = g (jadv (jemt 3 0 0 (.ok s))) := rfl
  unfold jbrn jbr2
  rw [hb1, h]
  split
  · simp only [jsst_er, jemt_er, jled_er, jadv_er, he]
  · simp only [jsst_er, jled_er]
theorem jbrn_15 {tx : List Nat} {g : JRs → JRs} {s s1 : JSt} (h : g (jadv (jemt 3 0 0 (.ok s))) = .ok s1) (h15 : (tk tx s1.k).1 = 15) : jbrn tx g (.ok s) = (match g (jadv (jled s.cd.length (jemt 4 0 0 (.ok (s1.wset s.set))))) with
    | .ok s2 => .ok ((sled s1.cd.length s2).wset (s2.set &&& s1.set))
    | .error e => .error e) := by
  have hb1 : jbr1 g (.ok s) = g (jadv (jemt 3 0 0 (.ok s))) := rfl
  unfold jbrn jbr2
  rw [hb1, h, if_pos (show jkd tx (jsst (jgs (.ok s)) (.ok s1)) = 15 from h15)]
  have e1 : jled (jcl (.ok s)) (jemt 4 0 0 (jsst (jgs (.ok s)) (.ok s1))) = jled s.cd.length (jemt 4 0 0 (.ok (s1.wset s.set))) := rfl
  rw [e1]
  cases g (jadv (jled s.cd.length (jemt 4 0 0 (.ok (s1.wset s.set))))) with
  | error e => rfl
  | ok s2 => rfl
theorem jbrn_n {tx : List Nat} {g : JRs → JRs} {s s1 : JSt} (h : g (jadv (jemt 3 0 0 (.ok s))) = .ok s1) (h15 : ¬ (tk tx s1.k).1 = 15) : jbrn tx g (.ok s) = .ok ((sled s.cd.length s1).wset (s1.set &&& s.set)) := by
  have hb1 : jbr1 g (.ok s) = g (jadv (jemt 3 0 0 (.ok s))) := rfl
  unfold jbrn jbr2
  rw [hb1, h, if_neg (show ¬ jkd tx (jsst (jgs (.ok s)) (.ok s1)) = 15 from h15), i_and_comm s1.set s.set]
  rfl
theorem r_L1 {XL : Nat} {XS : Nat → Int32} {n : Nat} {C' : mC} {K : mK} {P : mT → Prop} {tx : List Nat} {m : Nat} {I0 : Nat → Nat → Int32} {L0 : Nat → Nat → Int64} {u0 : JU} {base B : Nat} (hC' : m_Ge XL XS (n + 7) C') (hP : ∀ t, m_F XL XS C' kX9_readStmts none 0 0 0 K P t → P t) (hB : B ≤ 20) (hend : ∀ (b : Nat) (st : List Fm) (x : Fm) (s : JSt) (I : Nat → Nat → Int32) (L : Nat → Nat → Int64), RX tx m I0 L0 u0 b (x :: st) (.ok s) I L → x.1 = 1 → (tk tx s.k).1 = 20 → b + 1 ≤ 600 → base < (x :: st).length → Ends (x :: st) s I → SetOk s → lst st → s.cd.length + nth st ≤ 260 →
      (∀ I' L', POne tx m I0 L0 u0 (b + 1) (jend tx st x.2.2 s) I' L' → HdP P base I' L') → HdP P base I L) : ∀ f, L1 P tx m I0 L0 u0 base B f
  | 0 => by
    intro st s I L h hR hT he hk
    refine r_headH hC' hP hB h hR (fun x r e => ?_) (fun I' L' h' => ?_)
    · rcases hT with hT | ⟨y, q, e1, hy⟩
      · refine ⟨fun _ z => ?_, fun _ => ⟨fun z => ?_, fun z => ?_, fun z => ?_⟩⟩ <;> · rw [z] at hT; exact absurd hT (by decide)
      · rw [e1] at e; cases e
        exact ⟨fun z => by omega, fun z => by omega⟩
    · have hd : dep st = 11 := h.2.2.2.1.2.2.2.1
      by_cases gb : jbgn (tk tx s.k).1 = true
      · obtain ⟨e, e1⟩ := jopn_11 (tx := tx) (d := dep st) (r := .ok s) (by omega)
        rw [jone_e gb e1] at h'
        refine he e I' L' ?_ h'
        simp only [jstmt]
        rw [jst1_y gb, ← hd]
        exact e1
      · rw [jone_n gb] at h'
        obtain ⟨e, e1⟩ := jfal_err (tx := tx) (a := 2) (r := .ok s)
        rw [e1] at h'
        refine he e I' L' ?_ h'
        simp only [jstmt]
        rw [jst1_n gb, e1]
        rfl
  | f + 1 => by
    intro st s I L h hR hT he hk
    have H1 := r_L1 hC' hP hB hend f
    refine r_headH (n := n) hC' hP hB h hR (fun x r e => ?_) (fun I' L' h' => ?_)
    · rcases hT with hT | ⟨y, q, e1, hy⟩
      · refine ⟨fun _ z => ?_, fun _ => ⟨fun z => ?_, fun z => ?_, fun z => ?_⟩⟩ <;> · rw [z] at hT; exact absurd hT (by decide)
      · rw [e1] at e; cases e
        exact ⟨fun z => by omega, fun z => by omega⟩
    · obtain ⟨h1, h2, h3, ⟨h4, h5, h6, h7, h8⟩, h9⟩ := h
      have hd : 11 - (f + 1) = dep st := by omega
      by_cases gb : jbgn (tk tx s.k).1 = true
      · have hjs : jstmt tx (f + 1) (.ok s) = jb (jopn tx (dep st) (.ok s)) fun s2 =>
            if (tk tx s2.k).1 = 19 then jblk tx (jstmt tx f) (.ok s2)
            else if (tk tx s2.k).1 = 14 then jbrn tx (jstmt tx f) (.ok s2)
            else if (tk tx s2.k).1 = 9 then jxpc tx 22 (jlet tx (jadv (.ok s2)))
            else if (tk tx s2.k).1 = 12 then jxpc tx 22 (jyld tx (jadv (.ok s2)))
            else jxpc tx 22 (jsmp tx (.ok s2)) := by
          simp only [jstmt]
          rw [jst1_y gb, hd]
        rw [hjs] at he hk
        cases ho : jopn tx (dep st) (.ok s) with
        | error e =>
          rw [jone_e gb ho] at h'
          rw [ho] at he
          exact he e I' L' rfl h'
        | ok s2 =>
          obtain ⟨s0, e0, hs2, hdd⟩ := jopn_ok ho
          cases e0
          have hk2 : s2.k = s.k := by rw [hs2]; rfl
          have hc2 : s2.cd = s.cd := by rw [hs2]; rfl
          have hm2 : s2.sm = s.sm + 1 := by rw [hs2]; rfl
          have ht2 : s2.set = s.set := by rw [hs2]; rfl
          have hn2 : s2.nm = s.nm := by rw [hs2]; rfl
          clear hs2
          rw [ho] at he hk
          simp only [jb, hk2] at he hk
          unfold jone at h'
          rw [ho] at h'
          by_cases g19 : (tk tx s.k).1 = 19
          · rw [if_pos g19] at he hk h'
            obtain ⟨p1, p2, p3⟩ := h'
            have hsm := p1.ok.2.1.2
            have hsm' : s2.sm ≤ 120 := hsm
            have hjb : jblk tx (jstmt tx f) (.ok s2) = jshr s2.nm.length (jxpc tx 20 (jloop tx (jstmt tx f) 121 (.ok (s2.wk (s2.k + 1))))) := rfl
            rw [hjb] at he hk
            have hH : Hd tx m I0 L0 u0 base B f ((1, 0, s2.nm.length) :: st) (s2.wk (s2.k + 1)) I' L' := by
              have e1 : dep ((1, 0, s2.nm.length) :: st) = 1 + dep st := by rw [dep_cons]; simp
              have e2 : nth ((1, 0, s2.nm.length) :: st) = nth st := by rw [nth_cons]; simp
              have e3 : (s2.wk (s2.k + 1)).cd = s.cd := hc2
              have e4 : (s2.wk (s2.k + 1)).sm = s.sm + 1 := hm2
              refine ⟨p1.tight (by rw [e3]; omega) (by omega), p2, p3, ⟨Or.inl ⟨by simp, by simp⟩, by simp; omega, by rw [e1]; simp; omega, by rw [e1]; omega, fun z => absurd (isB_c.mp z) (by simp)⟩, by rw [e2, e3, e4]; omega⟩
            refine r_L2 hB H1 121 (1, 0, s2.nm.length) st _ I' L' (Or.inr rfl) hH (by omega) (fun e I3 L3 e1 h3 => ?_) (fun s4 I3 L3 e1 hb4 h3 => ?_)
            · rw [e1] at he
              exact he e I3 L3 (by rw [jxpc_er]; rfl) h3
            · rw [e1] at he hk
              have q1 := h3.1
              have hg := h3.2.2.2.2
              have hsm4 := q1.ok.2.1.2
              have e2 : nth ((1, 0, s2.nm.length) :: st) = nth st := by rw [nth_cons]; simp
              rw [e2] at hg
              by_cases g20 : (tk tx s4.k).1 = 20
              · refine hend 260 st (1, 0, s2.nm.length) s4 I3 L3 q1 rfl g20 (by omega) h3.2.2.2.1.2.1 h3.2.1 h3.2.2.1 h4 (by omega) (fun I5 L5 h5 => ?_)
                have hj : jxpc tx 20 (.ok s4) = jadv (.ok s4) := by
                  unfold jxpc
                  rw [if_pos (show jkd tx (.ok s4) = 20 from g20)]
                rw [hj] at hk
                unfold jend at h5
                rw [if_neg (fun z => h8 z.1)] at h5
                obtain ⟨z1, z2, z3⟩ := h5
                exact hk _ I5 L5 rfl (RX.mono z1 (by omega) (by omega)) z2 z3
              · refine r_headH (n := n) hC' hP hB h3 (Or.inr (Or.inl rfl)) (fun x r e => ?_) (fun I5 L5 h5 => ?_)
                · cases e
                  exact ⟨fun _ => g20, fun z => absurd z (by simp)⟩
                · have hj : jxpc tx 20 (.ok s4) = jfal tx 2 (.ok s4) := by
                    unfold jxpc
                    rw [if_neg (show ¬ jkd tx (.ok s4) = 20 from g20)]
                  rw [jone_n (by rw [hb4]; decide)] at h5
                  obtain ⟨e, e3⟩ := jfal_err (tx := tx) (a := 2) (r := .ok s4)
                  rw [e3] at h5 hj
                  rw [hj] at he
                  exact he e I5 L5 rfl h5
          rw [if_neg g19] at he hk h'
          by_cases g14 : (tk tx s.k).1 = 14
          · rw [if_pos g14] at he hk h'
            obtain ⟨p1, p2, p3⟩ := h'
            have hsm' : s2.sm ≤ 120 := p1.ok.2.1.2
            have hset : ¬ s2.set = -1 := by
              have := (p1.ok.2.2.2.2.2.2.2.2.2.2.2.1 rfl).2.2.2
              exact this.ne (by have := p1.fct.2.2.2.2.1; exact this)
            have hj3 : jadv (jemt 3 0 0 (.ok s2)) = .ok ((semt 3 0 0 s2).wk (s2.k + 1)) := by
              simp only [jemt, jb]
              rw [if_pos (by rw [hc2]; omega)]
              rfl
            have e3c : ((semt 3 0 0 s2).wk (s2.k + 1)).cd.length = s.cd.length + 1 := by
              show (semt 3 0 0 s2).cd.length = _
              rw [semt_len, hc2]
            have e3m : ((semt 3 0 0 s2).wk (s2.k + 1)).sm = s.sm + 1 := hm2
            have e3s : ((semt 3 0 0 s2).wk (s2.k + 1)).set = s2.set := rfl
            generalize (semt 3 0 0 s2).wk (s2.k + 1) = s3 at p1 p2 p3 hj3 e3c e3m e3s
            have hH : Hd tx m I0 L0 u0 base B f ((2, s2.set, s2.cd.length) :: st) s3 I' L' := by
              have e1 : dep ((2, s2.set, s2.cd.length) :: st) = 1 + dep st := by rw [dep_cons]; simp
              have e2 : nth ((2, s2.set, s2.cd.length) :: st) = 1 + nth st := by rw [nth_cons]; simp
              refine ⟨p1.tight (by rw [e3c]; omega) (by omega), p2, p3, ⟨Or.inr h4, by simp; omega, by rw [e1]; simp; omega, by rw [e1]; omega, fun z => absurd (isB_c.mp z) (by simp)⟩, by rw [e2, e3c, e3m]; omega⟩
            refine H1 _ s3 I' L' hH (Or.inr (Or.inr (by rw [e3s]; exact hset))) (Or.inr ⟨_, _, rfl, Or.inl rfl⟩) (fun e I3 L3 e1 h3 => ?_) (fun s4 I3 L3 e1 h3 hE3 hS3 => ?_)
            · exact he e I3 L3 (jbrn_er1 (fun _ => jstmt_er) (by rw [hj3]; exact e1)) h3
            · have hgr := Gr_stmt f s3 s4 e1
              unfold Gr at hgr
              rw [e3c, e3m] at hgr
              by_cases g15 : (tk tx s4.k).1 = 15
              · have hthr : thr tx ((2, s2.set, s2.cd.length) :: st) s4 = (((sled s2.cd.length (semt 4 0 0 s4)).wset s2.set).wk (s4.k + 1), (3, s4.set, s4.cd.length) :: st) := by
                  rw [thr, if_pos rfl, if_pos g15]
                rw [hthr] at h3 hE3 hS3
                have hjb := jbrn_15 (tx := tx) (g := jstmt tx f) (s := s2) (s1 := s4) (by rw [hj3]; exact e1) g15
                have h3m : s4.sm ≤ 120 := h3.ok.2.1.2
                have hj5 : jadv (jled s2.cd.length (jemt 4 0 0 (.ok (s4.wset s2.set)))) = .ok (((sled s2.cd.length (semt 4 0 0 s4)).wset s2.set).wk (s4.k + 1)) := by
                  simp only [jemt, jb]
                  rw [if_pos (show (s4.wset s2.set).cd.length < 260 from (show s4.cd.length < 260 by omega))]
                  rfl
                rw [hj5] at hjb
                have e5c : (((sled s2.cd.length (semt 4 0 0 s4)).wset s2.set).wk (s4.k + 1)).cd.length = s4.cd.length + 1 := by
                  show ((semt 4 0 0 s4).cd.modify _ _).length = _
                  rw [List.length_modify, semt_len]
                have e5m : (((sled s2.cd.length (semt 4 0 0 s4)).wset s2.set).wk (s4.k + 1)).sm = s4.sm := rfl
                have e5s : (((sled s2.cd.length (semt 4 0 0 s4)).wset s2.set).wk (s4.k + 1)).set = s2.set := rfl
                generalize ((sled s2.cd.length (semt 4 0 0 s4)).wset s2.set).wk (s4.k + 1) = s5 at h3 hE3 hS3 hjb e5c e5m e5s
                have hH5 : Hd tx m I0 L0 u0 base B f ((3, s4.set, s4.cd.length) :: st) s5 I3 L3 := by
                  have e1 : dep ((3, s4.set, s4.cd.length) :: st) = 1 + dep st := by rw [dep_cons]; simp
                  have e2 : nth ((3, s4.set, s4.cd.length) :: st) = nth st := by rw [nth_cons]; simp
                  refine ⟨h3.tight (by rw [e5c]; omega) (by omega), hE3, hS3, ⟨Or.inr h4, by simp; omega, by rw [e1]; simp; omega, by rw [e1]; omega, fun z => absurd (isB_c.mp z) (by simp)⟩, by rw [e2, e5c, e5m]; omega⟩
                refine H1 _ s5 I3 L3 hH5 (Or.inr (Or.inr (by rw [e5s]; exact hset))) (Or.inr ⟨_, _, rfl, Or.inr rfl⟩) (fun e I6 L6 e6 h6 => ?_) (fun s6 I6 L6 e6 h6 hE6 hS6 => ?_)
                · exact he e I6 L6 (by rw [hjb, e6]) h6
                · have hthr : thr tx ((3, s4.set, s4.cd.length) :: st) s6 = thr tx st ((sled s4.cd.length s6).wset (s6.set &&& s4.set)) := by
                    rw [thr, if_neg (by simp), if_pos rfl]
                  rw [hthr] at h6 hE6 hS6
                  exact hk _ I6 L6 (by rw [hjb, e6]) h6 hE6 hS6
              · have hthr : thr tx ((2, s2.set, s2.cd.length) :: st) s4 = thr tx st ((sled s2.cd.length s4).wset (s4.set &&& s2.set)) := by
                  rw [thr, if_pos rfl, if_neg g15]
                rw [hthr] at h3 hE3 hS3
                exact hk _ I3 L3 (jbrn_n (by rw [hj3]; exact e1) g15) h3 hE3 hS3
          rw [if_neg g14] at he hk h'
          have fin : ∀ r, POne tx m I0 L0 u0 263 (jlf tx st r) I' L' → (∀ e I' L', r = .error e → RX tx m I0 L0 u0 263 [] (.error e) I' L' → HdP P base I' L') → (∀ s' I' L', r = .ok s' → RX tx m I0 L0 u0 263 (thr tx st s').2 (.ok (thr tx st s').1) I' L' → Ends (thr tx st s').2 (thr tx st s').1 I' → SetOk (thr tx st s').1 → HdP P base I' L') → HdP P base I' L' := by
            intro r hr he hk
            cases r with
            | error e => exact he e I' L' rfl hr
            | ok s' => exact hk s' I' L' rfl hr.1 hr.2.1 hr.2.2
          by_cases g9 : (tk tx s.k).1 = 9
          · rw [if_pos g9] at he hk h'
            exact fin _ h' he hk
          rw [if_neg g9] at he hk h'
          by_cases g12 : (tk tx s.k).1 = 12
          · rw [if_pos g12] at he hk h'
            exact fin _ h' he hk
          rw [if_neg g12] at he hk h'
          rw [if_pos gb] at h'
          exact fin _ h' he hk
      · rw [jone_n gb] at h'
        obtain ⟨e, e1⟩ := jfal_err (tx := tx) (a := 2) (r := .ok s)
        rw [e1] at h'
        refine he e I' L' ?_ h'
        simp only [jstmt]
        rw [jst1_n gb, e1]
        rfl
