theorem jcon_len {tx : List Nat} {r : JRs} {s' : JSt} (h : jcon tx r = .ok s') : ∃ s, r = .ok s ∧ s'.ens.length = s.ens.length := by
  obtain ⟨s, h1, -, h3⟩ := jcon_ok h
  refine ⟨s, h1, ?_⟩
  have := congrArg List.length h3
  unfold nms at this
  rw [List.length_map, List.length_map] at this
  exact this
theorem c_constants {XL : Nat} {XS : Nat → Int32} {n : Nat} {C : mC} {I : Nat → Nat → Int32} {L : Nat → Nat → Int64} {K : mK} {tx : List Nat} {m : Nat} {I0 : Nat → Nat → Int32} {L0 : Nat → Nat → Int64} {r : JRs} {e : Nat} (hC : m_Ge XL XS (n + 4) C) (hX : CX tx m I0 L0 r I L) (he : e < 4) (hs : ∀ s, r = .ok s → e + 1 = s.ens.length) (hK : ∀ I' L', CX tx m I0 L0 (jclp tx 16 (jcon tx r)) I' L' → K none (m_SH, I', L')) : C 11 [.ref 17, .int (nI e)] (m_SH, I, L) K := by
  refine e_X1_constants hC (Nat.le_of_ble_eq_true rfl) ?_
  intro C' hC' P hP
  have loop : ∀ (i c : Nat) (q : JRs) (J : Nat → Nat → Int32) (M : Nat → Nat → Int64), c + i = 16 → CX tx m I0 L0 q J M → (∀ s, q = .ok s → e + 1 = s.ens.length) → (∀ I' L', CX tx m I0 L0 (jclp tx i q) I' L' → K none (m_SH, I', L')) → P (7, [some (.ref 17), some (.int (nI e)), some (.int (nI c))], [], (m_SH, J, M), 0, 0) := by
    intro i
    induction i with
    | zero =>
      intro c q J M hc hq hqs hk
      repeat (refine hP _ ?_; conv => whnf)
      refine ⟨fun z => absurd ((nI_ltI (a := c) (b := 16) (by omega) (by omega)).mp z) (by omega), fun _ => ?_⟩
      repeat (refine hP _ ?_; conv => whnf)
      exact hk _ _ hq
    | succ i ih =>
      intro c q J M hc hq hqs hk
      unfold jclp at hk
      repeat (refine hP _ ?_; conv => whnf)
      refine ⟨fun _ => ?_, fun z => absurd (show nI c < nI 16 from nI_lt (by omega) (by omega)) z⟩
      repeat (refine hP _ ?_; conv => whnf)
      refine c_kindX (n := n + 2) hC' hq ?_
      have ek := nI_eq (a := jkd tx q) (b := 23) (jkd_lt tx _) (by omega)
      repeat (refine hP _ ?_; conv => whnf)
      refine ⟨fun z => ?_, fun z => ?_⟩
      · have g : jkd tx q = 23 := ek.mp z
        rw [if_pos g] at hk
        have hadv := hq.adv (fun s hs => by subst hs; have : (tk tx s.k).1 = 23 := g; omega)
        repeat (refine hP _ ?_; conv => whnf)
        refine c_constant (n := n) hC' hadv he (fun s hs2 => ?_) (fun I' L' h' => ?_)
        · cases q with
          | error _ => cases hs2
          | ok y => cases hs2; exact hqs y rfl
        · have e2 := ih (c + 1) _ I' L' (by omega) h' (fun s hs2 => by
            obtain ⟨y, y1, y2⟩ := jcon_len hs2
            cases q with
            | error _ => cases y1
            | ok w => cases y1; rw [y2]; exact hqs w rfl) hk
          rw [← nI_1] at e2
          iterate 2 (refine hP _ ?_; conv => whnf)
          exact e2
      · have g : ¬ jkd tx q = 23 := fun y => z (ek.mpr y)
        rw [if_neg g] at hk
        repeat (refine hP _ ?_; conv => whnf)
        exact hk _ _ hq
  repeat (refine hP _ ?_; conv => whnf)
  refine c_constant (n := n) hC' hX he hs (fun I' L' h' => ?_)
  iterate 2 (refine hP _ ?_; conv => whnf)
  exact loop 16 0 _ I' L' (by omega) h' (fun s hs2 => by
    obtain ⟨y, y1, y2⟩ := jcon_len hs2
    rw [y2]
    exact hs y y1) hK
theorem c_findEnumX {XL : Nat} {XS : Nat → Int32} {n : Nat} {C : mC} {I : Nat → Nat → Int32} {L : Nat → Nat → Int64} {K : mK} {tx : List Nat} {m : Nat} {I0 : Nat → Nat → Int32} {L0 : Nat → Nat → Int64} {s : JSt} (hC : m_Ge XL XS (n + 1) C) (hX : CX tx m I0 L0 (.ok s) I L) (hk : (tk tx s.k).1 = 16) (hK : ∀ v, (v < 0 ↔ ¬ jnam tx s ∈ nms s) → (jnam tx s ∈ nms s → v = nI (enx s (jnam tx s))) → (¬ jnam tx s ∈ nms s → v = -1) → K (some (.int v)) (m_SH, I, L)) : C 13 [.ref 17, .long (tvF I L)] (m_SH, I, L) K := by
  obtain ⟨z1, z2, z3⟩ := hX.cen
  have z1 : I 17 6 = nI s.ens.length := z1
  have z2 : s.ens.length ≤ 4 := z2
  have hnm : NmOk (jnam tx s) := tk_nm hX.1.1 (Or.inl hk)
  have htv : tvF I L = lN (pkB 256 (jnam tx s)) := by rw [hX.tv, cval_nm (Or.inl hk)]; rfl
  have hl : (nms s).length = s.ens.length := by unfold nms; rw [List.length_map]
  have hi := ix_srch (f := fun j => L 20 j == tvF I L) (cs := jnam tx s) (ns := nms s) (by omega) (fun j hj => by
    show (L 20 j == tvF I L) = _
    rw [hl] at hj
    have hx : s.ens[j]? = some s.ens[j] := List.getElem?_eq_getElem hj
    obtain ⟨w1, w2, -⟩ := z3 j _ hx
    have e : (nms s).getD j [] = s.ens[j].1 := by
      unfold nms
      rw [List.getD_eq_getElem?_getD, List.getElem?_map, hx]
      rfl
    rw [w1, htv, e]
    exact beq_of_iff (nm_inj8 w2 hnm))
  rw [hl] at hi
  exact c_findEnumeration hC z1 z2 (hK _ hi.1 hi.2.1 hi.2.2)
theorem c_enumeration {XL : Nat} {XS : Nat → Int32} {n : Nat} {C : mC} {I : Nat → Nat → Int32} {L : Nat → Nat → Int64} {K : mK} {tx : List Nat} {m : Nat} {I0 : Nat → Nat → Int32} {L0 : Nat → Nat → Int64} {r : JRs} (hC : m_Ge XL XS (n + 5) C) (hX : CX tx m I0 L0 r I L) (hK : ∀ I' L', CX tx m I0 L0 (jenm tx r) I' L' → K none (m_SH, I', L')) : C 10 [.ref 17] (m_SH, I, L) K := by
  refine e_X1_enumeration hC (Nat.le_of_ble_eq_true rfl) ?_
  intro C' hC' P hP
  repeat (refine hP _ ?_; conv => whnf)
  refine c_kindX (n := n + 3) hC' hX ?_
  cases r with
  | error er =>
    repeat (refine hP _ ?_; conv => whnf)
    refine ⟨fun z => absurd (show nI 0 = nI 16 from z) (by decide), fun _ => ?_⟩
    repeat (refine hP _ ?_; conv => whnf)
    refine c_failX (a := 2) (n := n + 3) hC' hX (by decide) (by decide) (fun I' h' => ?_)
    repeat (refine hP _ ?_; conv => whnf)
    exact hK _ _ h'
  | ok s =>
    have hj : jenm tx (.ok s) = if ¬ (tk tx s.k).1 = 16 then jfal tx 2 (.ok s) else if jnam tx s ∈ nms s then jfal tx 3 (.ok s) else if 4 ≤ s.ens.length then jfal tx 12 (.ok s) else jxpc tx 20 (jclp tx 16 (jcon tx (jxpc tx 19 (jadv (.ok (s.wens (s.ens ++ [(jnam tx s, [])]))))))) := rfl
    rw [hj] at hK
    have ek := nI_eq (a := jkd tx (.ok s)) (b := 16) (jkd_lt tx _) (by omega)
    repeat (refine hP _ ?_; conv => whnf)
    refine ⟨fun z => ?_, fun z => ?_⟩
    rotate_left
    · have g : ¬ (tk tx s.k).1 = 16 := fun y => z (ek.mpr y)
      rw [if_pos g] at hK
      repeat (refine hP _ ?_; conv => whnf)
      refine c_failX (a := 2) (n := n + 3) hC' hX (by decide) (by decide) (fun I' h' => ?_)
      repeat (refine hP _ ?_; conv => whnf)
      exact hK _ _ h'
    · have g : (tk tx s.k).1 = 16 := ek.mp z
      rw [if_neg (fun y => y g)] at hK
      have hnm : NmOk (jnam tx s) := tk_nm hX.1.1 (Or.inl g)
      have htv : tvF I L = lN (pkB 256 (jnam tx s)) := by rw [hX.tv, cval_nm (Or.inl g)]; rfl
      have e6 : I 17 6 = nI s.ens.length := hX.cen.1
      have e4 : s.ens.length ≤ 4 := hX.cen.2.1
      repeat (refine hP _ ?_; conv => whnf)
      refine c_tokenValue (n := n + 3) hC' ?_
      repeat (refine hP _ ?_; conv => whnf)
      refine c_findEnumX (n := n + 3) hC' hX g (fun v v1 v2 v3 => ?_)
      repeat (refine hP _ ?_; conv => whnf)
      refine ⟨fun y => ?_, fun y => ?_⟩
      · rw [if_neg (v1.mp y)] at hK
        repeat (refine hP _ ?_; conv => whnf)
        rw [e6]
        refine ⟨fun w => ?_, fun w => ?_⟩
        · have h4 : ¬ 4 ≤ s.ens.length := by
            have := (nI_ltI (a := s.ens.length) (b := 4) (by omega) (by omega)).mp w
            omega
          rw [if_neg h4] at hK
          repeat (refine hP _ ?_; conv => whnf)
          refine c_tokenValue (n := n + 3) hC' ?_
          repeat (refine hP _ ?_; conv => whnf)
          rw [e6]
          refine ⟨vp_in_nI (by omega) (by omega), ?_⟩
          rw [nI_clamp (by omega)]
          repeat (refine hP _ ?_; conv => whnf)
          rw [e6]
          refine ⟨vp_in_nI (by omega) (by omega), ?_⟩
          rw [nI_clamp (by omega)]
          have hnew : CX tx m I0 L0 (.ok (s.wens (s.ens ++ [(jnam tx s, [])]))) (m_up (m_up I 21 s.ens.length 0) 17 6 (nI (s.ens.length + 1))) (m_upL L 20 s.ens.length (tvF I L)) := by
            refine hX.en ((Fr.rf.up rfl).up rfl) (Fr.rf.upL rfl) (hX.cen.app hnm (by omega) htv) ⟨⟨s.ens.length + 1, by omega, by simp [m_upr]⟩, fun i hi => ?_⟩
            by_cases q : i = s.ens.length
            · exact ⟨0, by omega, by simp [m_upr, q]; rfl⟩
            · obtain ⟨c, c1, c2⟩ := hX.bd.2.2.2.2.2.1 i hi
              exact ⟨c, c1, by simp [m_upr, q]; exact c2⟩
          have hadv := hnew.adv (fun q e => by cases e; exact ⟨by show ¬ (tk tx s.k).1 = 27; omega, by show ¬ (tk tx s.k).1 = 28; omega⟩)
          have e66 : (m_up (m_up (m_up I 21 s.ens.length 0) 17 6 (nI (s.ens.length + 1))) 17 8 (m_up (m_up I 21 s.ens.length 0) 17 6 (nI (s.ens.length + 1)) 17 8 + 1)) 17 6 = nI (s.ens.length + 1) := by simp [m_upr]
          repeat (refine hP _ ?_; conv => whnf)
          rw [show m_up I 21 s.ens.length 0 17 6 = nI s.ens.length by simp [m_upr, e6], nI_1]
          generalize m_up (m_up (m_up I 21 s.ens.length 0) 17 6 (nI (s.ens.length + 1))) 17 8 (m_up (m_up I 21 s.ens.length 0) 17 6 (nI (s.ens.length + 1)) 17 8 + 1) = I1 at hadv e66
          refine c_expect (k := 19) (n := n + 2) hC' ?_
          have hx19 := hadv.xpc (a := 19) (by decide) (by decide)
          have e67 : expF 19 I1 17 6 = nI (s.ens.length + 1) := by
            have hF : Fr (fun p q => p == 17 && (q == 8 || q == 9 || q == 10)) I1 (expF 19 I1) := by
              unfold expF failF
              repeat' split
              all_goals first | exact Fr.rf | exact Fr.rf.up rfl | exact (Fr.rf.up rfl).up rfl
            rw [hF 17 6 rfl]
            exact e66
          have hx19' : CX tx m I0 L0 (jxpc tx 19 (jadv (.ok (s.wens (s.ens ++ [(jnam tx s, [])]))))) (expF 19 I1) (m_upL L 20 s.ens.length (tvF I L)) := hx19
          generalize expF 19 I1 = I2 at hx19' e67
          repeat (refine hP _ ?_; conv => whnf)
          rw [e67, show nI (s.ens.length + 1) - 1 = nI s.ens.length from nI_pred _]
          refine c_constants (n := n) hC' hx19' (by omega) (fun q e => ?_) (fun I3 L3 h3 => ?_)
          · obtain ⟨q2, e2, rfl, -⟩ := jxpc_ok e
            cases e2
            show s.ens.length + 1 = (s.ens ++ [_]).length
            rw [List.length_append]; rfl
          · repeat (refine hP _ ?_; conv => whnf)
            refine c_expectX (k := 20) (n := n + 2) hC' h3 (by decide) (by decide) (fun I4 h4 => ?_)
            repeat (refine hP _ ?_; conv => whnf)
            exact hK _ _ h4
        · have h4 : 4 ≤ s.ens.length := by
            by_cases q : 4 ≤ s.ens.length
            · exact q
            · exact absurd (show nI s.ens.length < nI 4 from nI_lt (by omega) (by omega)) w
          rw [if_pos h4] at hK
          repeat (refine hP _ ?_; conv => whnf)
          refine c_failX (a := 12) (n := n + 3) hC' hX (by decide) (by decide) (fun I' h' => ?_)
          repeat (refine hP _ ?_; conv => whnf)
          exact hK _ _ h'
      · have gm : jnam tx s ∈ nms s := by
          by_cases u : jnam tx s ∈ nms s
          · exact u
          · exact absurd (v1.mpr u) y
        rw [if_pos gm] at hK
        repeat (refine hP _ ?_; conv => whnf)
        refine c_failX (a := 3) (n := n + 3) hC' hX (by decide) (by decide) (fun I' h' => ?_)
        repeat (refine hP _ ?_; conv => whnf)
        exact hK _ _ h'
theorem c_enumerations {XL : Nat} {XS : Nat → Int32} {n : Nat} {C : mC} {I : Nat → Nat → Int32} {L : Nat → Nat → Int64} {K : mK} {tx : List Nat} {m : Nat} {I0 : Nat → Nat → Int32} {L0 : Nat → Nat → Int64} {r : JRs} (hC : m_Ge XL XS (n + 6) C) (hX : CX tx m I0 L0 r I L) (hK : ∀ I' L', CX tx m I0 L0 (jens tx 5 r) I' L' → K none (m_SH, I', L')) : C 9 [.ref 17] (m_SH, I, L) K := by
  refine e_X1_enumerations hC (Nat.le_of_ble_eq_true rfl) ?_
  intro C' hC' P hP
  have loop : ∀ (i c : Nat) (q : JRs) (J : Nat → Nat → Int32) (M : Nat → Nat → Int64), c + i = 5 → CX tx m I0 L0 q J M → (∀ I' L', CX tx m I0 L0 (jens tx i q) I' L' → K none (m_SH, I', L')) → P (2, [some (.ref 17), some (.int (nI c))], [], (m_SH, J, M), 0, 0) := by
    intro i
    induction i with
    | zero =>
      intro c q J M hc hq hk
      repeat (refine hP _ ?_; conv => whnf)
      refine ⟨fun _ => ?_, fun z => absurd (show nI 4 < nI c from nI_lt (by omega) (by omega)) z⟩
      repeat (refine hP _ ?_; conv => whnf)
      exact hk _ _ hq
    | succ i ih =>
      intro c q J M hc hq hk
      unfold jens at hk
      repeat (refine hP _ ?_; conv => whnf)
      refine ⟨fun z => absurd ((nI_ltI (a := 4) (b := c) (by omega) (by omega)).mp z) (by omega), fun _ => ?_⟩
      repeat (refine hP _ ?_; conv => whnf)
      refine c_kindX (n := n + 4) hC' hq ?_
      have ek := nI_eq (a := jkd tx q) (b := 1) (jkd_lt tx _) (by omega)
      repeat (refine hP _ ?_; conv => whnf)
      refine ⟨fun z => ?_, fun z => ?_⟩
      · have g : jkd tx q = 1 := ek.mp z
        rw [if_pos g] at hk
        have hadv := hq.adv (fun s hs => by subst hs; have : (tk tx s.k).1 = 1 := g; omega)
        repeat (refine hP _ ?_; conv => whnf)
        refine c_enumeration (n := n) hC' hadv (fun I' L' h' => ?_)
        have e2 := ih (c + 1) _ I' L' (by omega) h' hk
        rw [← nI_1] at e2
        iterate 2 (refine hP _ ?_; conv => whnf)
        exact e2
      · have g : ¬ jkd tx q = 1 := fun y => z (ek.mpr y)
        rw [if_neg g] at hk
        repeat (refine hP _ ?_; conv => whnf)
        exact hk _ _ hq
  iterate 2 (refine hP _ ?_; conv => whnf)
  exact loop 5 0 r I L (by omega) hX hK
