theorem r_headS {XL : Nat} {XS : Nat → Int32} {n : Nat} {C' : mC} {K : mK} {P : mT → Prop} {tx : List Nat} {m : Nat} {I0 : Nat → Nat → Int32} {L0 : Nat → Nat → Int64} {u0 : JU} {b : Nat} {st : List Fm} {I : Nat → Nat → Int32} {L : Nat → Nat → Int64} {s : JSt} {base : Nat} {l2 : Option Value} (hC' : m_Ge XL XS (n + 7) C') (hP : ∀ t, m_F XL XS C' kX9_readStmts none 0 0 0 K P t → P t)
    (hX : RX tx m I0 L0 u0 b st (.ok s) I L) (hb : b + 3 ≤ 600) (hE : Ends st s I) (hR : Rch st s) (hs : SetOk s) (hl : lst st) (hst : st.length < 20) (hd : dep st < 20) (hn : s.cd.length + nth st ≤ 2 * s.sm + 20) (hbase : base < st.length)
    (hT : ∀ x r, st = x :: r → (x.1 = 1 → ¬ (tk tx s.k).1 = 20) ∧ (x.1 = 0 → ¬ (tk tx s.k).1 = 20 ∧ ¬ (tk tx s.k).1 = 6 ∧ ¬ (tk tx s.k).1 = 7) ∧ ¬ x.1 = 4)
    (hK : ∀ I' L' l, POne tx m I0 L0 u0 (b + 3) (jone tx st s) I' L' → P (0, [some (.ref 30), some (.int (nI base)), l], [], (m_SH, I', L'), 0, 0)) : P (0, [some (.ref 30), some (.int (nI base)), l2], [], (m_SH, I, L), 0, 0) := by
  cases st with
  | nil => exact hl.elim
  | cons x r =>
    obtain ⟨f44, f36, f33, f35, fn, fst⟩ := hX.fct
    have hlen : (x :: r).length = r.length + 1 := rfl
    have fi : I 30 44 - 1 = nI r.length := by
      rw [f44, hlen, show (1 : Int32) = nI 1 from rfl, sub_nI (by omega)]
      rfl
    have a1 := hX.ok.2.2.2.2.2.2.2.2.2.1
    obtain ⟨t1, t0, t4⟩ := hT x r rfl
    have s85 : P (85, [some (.ref 30), some (.int (nI base)), some (.int (nI x.1))], [], (m_SH, I, L), 0, 0) := by
      repeat (refine hP _ ?_; conv => whnf)
      refine r_stmt hC' hX hb hE hR hs hl hst hd hn (fun I' L' h' => ?_)
      iterate 1 (refine hP _ ?_; conv => whnf)
      exact hK _ _ _ h'
    have s79 : P (79, [some (.ref 30), some (.int (nI base)), some (.int (nI x.1))], [], (m_SH, I, L), 0, 0) := by
      repeat (refine hP _ ?_; conv => whnf)
      have e4 := nI_eq (a := x.1) (b := 4) (by have := a1.1; omega) (by omega)
      exact ⟨fun z => absurd (e4.mp z) t4, fun _ => s85⟩
    have s48 : P (48, [some (.ref 30), some (.int (nI base)), some (.int (nI x.1))], [], (m_SH, I, L), 0, 0) := by
      iterate 2 (refine hP _ ?_; conv => whnf)
      have e0 := nI_eq (a := x.1) (b := 0) (by have := a1.1; omega) (by omega)
      refine ⟨fun z => ?_, fun _ => s79⟩
      have g : x.1 = 0 := e0.mp z
      repeat (refine hP _ ?_; conv => whnf)
      refine r_isSignX (k := 20) (n := n + 6) hC' hX (by decide) (by decide) ?_
      rw [if_neg (t0 g).1]
      repeat (refine hP _ ?_; conv => whnf)
      refine ⟨fun _ => ?_, fun w => absurd rfl w⟩
      repeat (refine hP _ ?_; conv => whnf)
      refine r_isWordX (w := 5) (n := n + 6) hC' hX (by decide) ?_
      rw [if_neg (t0 g).2.1]
      repeat (refine hP _ ?_; conv => whnf)
      refine ⟨fun _ => ?_, fun w => absurd rfl w⟩
      repeat (refine hP _ ?_; conv => whnf)
      refine r_isWordX (w := 6) (n := n + 6) hC' hX (by decide) ?_
      rw [if_neg (t0 g).2.2]
      iterate 1 (refine hP _ ?_; conv => whnf)
      exact ⟨fun _ => s79, fun w => absurd rfl w⟩
    repeat (refine hP _ ?_; conv => whnf)
    refine ⟨fun _ => ?_, fun z => absurd hX.flt_ok z⟩
    repeat (refine hP _ ?_; conv => whnf)
    rw [f44]
    refine ⟨fun _ => ?_, fun z => absurd (nI_lt (by omega) (by omega)) z⟩
    repeat (refine hP _ ?_; conv => whnf)
    rw [fi]
    refine ⟨vp_in_nI (by omega) (by omega), ?_⟩
    rw [nI_clamp (by omega), a1.2]
    iterate 4 (refine hP _ ?_; conv => whnf)
    have e1 := nI_eq (a := x.1) (b := 1) (by have := a1.1; omega) (by omega)
    refine ⟨fun z => ?_, fun _ => s48⟩
    have g : x.1 = 1 := e1.mp z
    repeat (refine hP _ ?_; conv => whnf)
    refine r_isSignX (k := 20) (n := n + 6) hC' hX (by decide) (by decide) ?_
    rw [if_neg (t1 g)]
    iterate 1 (refine hP _ ?_; conv => whnf)
    exact ⟨fun _ => s48, fun w => absurd rfl w⟩
