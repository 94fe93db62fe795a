/-! ===== the end of a block ===== -/
def isBb : List Fm → Bool
  | [] => false
  | x :: _ => x.1 == 4
abbrev isB (st : List Fm) : Prop := isBb st = true
theorem isB_c {x : Fm} {r : List Fm} : isB (x :: r) ↔ x.1 = 4 := by
  unfold isB isBb
  exact beq_iff_eq
def jend (tx : List Nat) (st : List Fm) (c : Nat) (s : JSt) : Except (Nat × Nat) (List Fm × JSt) :=
  if isB st ∧ ¬ s.val = 0 ∧ ¬ s.set = -1 then jlf tx st (jfal tx 10 (.ok s)) else jlf tx st (jshr c (jadv (.ok s)))
def sshr (c : Nat) (s : JSt) : JSt := (s.wnm (s.nm.take c)).wset (if s.set = -1 then -1 else s.set &&& ((1 <<< (nI c &&& 31)) - 1))
theorem sshr_ok {c : Nat} {s : JSt} (hs : SetOk s) (hc : c ≤ s.nm.length) (hn : s.nm.length ≤ 20) : SetOk (sshr c s) ∧ ((sshr c s).set = -1 ↔ s.set = -1) ∧ (sshr c s).nm.length = c := by
  have hl : (sshr c s).nm.length = c := by
    show (s.nm.take c).length = c
    rw [List.length_take]; omega
  have hset : (sshr c s).set = if s.set = (-1 : Int32) then (-1 : Int32) else s.set &&& ((1 <<< (nI c &&& 31)) - 1) := rfl
  unfold SetOk
  rw [hl, hset]
  by_cases g : s.set = -1
  · rw [if_pos g]
    exact ⟨Or.inl rfl, ⟨fun _ => g, fun _ => rfl⟩, rfl⟩
  · rw [if_neg g]
    have hm := (hs.resolve_left g).mask (k := c) (by omega)
    exact ⟨Or.inr hm, ⟨fun z => absurd z (hm.ne (by omega)), fun z => absurd z g⟩, rfl⟩
theorem RX.pbk {tx : List Nat} {m : Nat} {I0 : Nat → Nat → Int32} {L0 : Nat → Nat → Int64} {u0 : JU} {b : Nat} {I : Nat → Nat → Int32} {L : Nat → Nat → Int64} {s : JSt} {x : Fm} {r : List Fm} {v : Int32} (h : RX tx m I0 L0 u0 b (x :: r) (.ok s) I L) (hx : x.1 = 1) (hv : v = (sshr x.2.2 s).set) :
    RX tx m I0 L0 u0 b r (.ok (sshr x.2.2 s)) (popF (m_up (m_up I 30 35 (nI x.2.2)) 30 36 v)) L := by
  subst hv
  obtain ⟨f44, f36, f33, f35, fn, fst⟩ := h.fct
  have hlen : (x :: r).length = r.length + 1 := rfl
  have hcdb := h.cdb
  obtain ⟨⟨q1, q2, q3⟩, ⟨b1, b2⟩, ⟨c1, c2, c3⟩, ⟨d1, d2, d3, d4⟩, e, ⟨g1, g2, g3, g4, ⟨a1, a2, a3, a4, a5⟩⟩⟩ := h.ok
  have hc := (a2 hx).2
  rw [if_pos hx] at a5
  have hl : (sshr x.2.2 s).nm = s.nm.take x.2.2 := rfl
  have hll : (sshr x.2.2 s).nm.length = x.2.2 := by rw [hl, List.length_take]; omega
  have fi : I 30 44 - 1 = nI r.length := by
    rw [f44, hlen, show (1 : Int32) = nI 1 from rfl, sub_nI (by omega)]
    rfl
  have hd : dep (x :: r) = dep r + 1 := by
    rw [dep_cons, if_pos (by omega)]
    omega
  generalize hv : (sshr x.2.2 s).set = v
  have hp : popF (m_up (m_up I 30 35 (nI x.2.2)) 30 36 v) = m_up (m_up (m_up (m_up I 30 35 (nI x.2.2)) 30 36 v) 30 44 (nI r.length)) 30 45 (nI (dep r)) := by
    unfold popF
    have e1 : m_up (m_up I 30 35 (nI x.2.2)) 30 36 v 30 44 = I 30 44 := by simp [m_upr]
    have e2 : m_up (m_up I 30 35 (nI x.2.2)) 30 36 v 30 45 = nI (dep (x :: r)) := by simp [m_upr, g2]
    have e3 : m_up (m_up I 30 35 (nI x.2.2)) 30 36 v 45 r.length = nI x.1 := by simp [m_upr, a1.2]
    rw [e1, fi, nI_clamp (by omega), e2, e3]
    congr 1
    rw [hd] at g4 ⊢
    rw [hx, if_pos (by decide), show (1 : Int32) = nI 1 from rfl, sub_nI (by omega)]; rfl
  rw [hp]
  refine h.mk ((((Fr.rf.up rfl).up rfl).up rfl).up rfl) Fr.rf h.2.2.2.1 ⟨⟨⟨?_, ?_, q3⟩, ⟨?_, b2⟩, ⟨?_, ?_, c3⟩, ?_, ?_, ?_, ?_, by omega, by have := dep_le (x := x) (r := r); omega, ?_⟩, hcdb⟩
  · exact q1.fr (by simp [m_upr]) (by simp [m_upr]) (by simp [m_upr]) (by simp [m_upr]) rfl
  · simp [m_upr]; exact q2
  · simp [m_upr]; exact b1
  · simp [m_upr]; exact hv.symm
  · simp [m_upr]; exact c2
  · unfold RNm
    rw [hll]
    refine ⟨by simp [m_upr], by omega, fun j hj => ?_, fun y hy => ?_⟩
    · rw [d3 j (by omega), hl]
      congr 2
      rw [List.getD_eq_getElem?_getD, List.getD_eq_getElem?_getD, List.getElem?_take, if_pos hj]
    · rw [hl] at hy
      exact d4 y (List.mem_of_mem_take hy)
  · unfold RCd at e ⊢
    refine ⟨by simp [m_upr]; exact e.1, fun j y hy => ?_⟩
    simpa [m_upr] using e.2 j y hy
  · simp [m_upr]
  · simp [m_upr]
  · rw [hll]
    refine FrS.fr (fun p j h1 h2 => ?_) r _ a5
    have : ¬ p = 30 := by omega
    simp [m_upr, *]
theorem r_endBlock {XL : Nat} {XS : Nat → Int32} {n : Nat} {C : mC} {I : Nat → Nat → Int32} {L : Nat → Nat → Int64} {K : mK} {tx : List Nat} {m : Nat} {I0 : Nat → Nat → Int32} {L0 : Nat → Nat → Int64} {u0 : JU} {b : Nat} {st : List Fm} {s : JSt} {x : Fm} (hC : m_Ge XL XS (n + 5) C) (hX : RX tx m I0 L0 u0 b (x :: st) (.ok s) I L) (hx : x.1 = 1) (hk : (tk tx s.k).1 = 20) (hb : b + 1 ≤ 600) (hE : Ends (x :: st) s I) (hs : SetOk s) (hl : lst st) (hn : s.cd.length + nth st ≤ 260)
    (hK : ∀ I' L', POne tx m I0 L0 u0 (b + 1) (jend tx st x.2.2 s) I' L' → K none (m_SH, I', L')) : C 139 [.ref 30] (m_SH, I, L) K := by
  obtain ⟨f44, f36, f33, f35, fn, fst⟩ := hX.fct
  have hval : I 30 16 = s.val := hX.ok.2.2.1.2.1
  have hlen : (x :: st).length = st.length + 1 := rfl
  obtain ⟨g1, g2, g3, g4, ⟨a1, a2, a3, a4, a5⟩⟩ := hX.ok.2.2.2.2.2
  have fi : I 30 44 - 1 = nI st.length := by
    rw [f44, hlen, show (1 : Int32) = nI 1 from rfl, sub_nI (by omega)]
    rfl
  have h46 : I 46 st.length = if s.set = -1 then 0 else 1 := hE (by omega) (by omega)
  have h47 : I 47 st.length = nI x.2.2 := (a2 hx).1
  have hc : x.2.2 ≤ s.nm.length := (a2 hx).2
  obtain ⟨hs1, hs2, hs3⟩ := sshr_ok hs hc fn
  refine e_X9_endBlock hC (Nat.le_of_ble_eq_true rfl) ?_
  intro C' hC' P hP
  have bad : isB st → ¬ s.val = 0 → ¬ s.set = -1 → P (56, [some (.ref 30), some (.int (if s.set = -1 then 0 else 1)), some (.int 1)], [], (m_SH, I, L), 0, 0) := by
    intro h1 h2 h3
    unfold jend at hK
    rw [if_pos ⟨h1, h2, h3⟩] at hK
    repeat (refine hP _ ?_; conv => whnf)
    refine r_wrongX (a := 10) (n := n + 3) hC' hX (by decide) (by decide) (by decide) (fun I' h' => ?_)
    repeat (refine hP _ ?_; conv => whnf)
    refine hK _ _ (POut.one (b := b) ?_ (by omega) hb)
    obtain ⟨e, he⟩ := jfal_err (tx := tx) (a := 10) (r := .ok s)
    rw [he] at h' ⊢
    exact h'.any (st' := [])
  have good : ¬ (isB st ∧ ¬ s.val = 0 ∧ ¬ s.set = -1) → ∀ l2, P (63, [some (.ref 30), some (.int (if s.set = -1 then 0 else 1)), l2], [], (m_SH, I, L), 0, 0) := by
    intro h1 l2
    unfold jend at hK
    rw [if_neg h1] at hK
    have tail : P (103, [some (.ref 30), some (.int (if s.set = -1 then 0 else 1)), l2], [.int (sshr x.2.2 s).set, .ref 30], (m_SH, m_up I 30 35 (nI x.2.2), L), 0, 0) := by
      have hp := hX.pbk hx rfl
      repeat (refine hP _ ?_; conv => whnf)
      refine r_pop (n := n + 3) hC' (by simp [m_upr]; rw [fi]; exact vp_in_nI (by omega) (by omega)) ?_
      repeat (refine hP _ ?_; conv => whnf)
      refine r_nextX (n := n + 1) hC' hp (by show (tk tx s.k).1 < 27; omega) (fun I3 L3 h3 => ?_)
      have h3' : RX tx m I0 L0 u0 b st (.ok ((sshr x.2.2 s).wk (s.k + 1))) I3 L3 := h3
      repeat (refine hP _ ?_; conv => whnf)
      refine r_throughV hC' h3' ?_ hb hs1 hl hn (fun I8 L8 h8 he hs8 => ?_)
      · show (if s.set = -1 then (0 : Int32) else 1) = if (sshr x.2.2 s).set = -1 then 0 else 1
        by_cases g : s.set = -1
        · rw [if_pos g, if_pos (hs2.mpr g)]
        · rw [if_neg g, if_neg (fun z => g (hs2.mp z))]
      · repeat (refine hP _ ?_; conv => whnf)
        exact hK _ _ ⟨h8, he, hs8⟩
    have hset : (sshr x.2.2 s).set = if s.set = (-1 : Int32) then (-1 : Int32) else s.set &&& ((1 <<< (nI x.2.2 &&& 31)) - 1) := rfl
    repeat (refine hP _ ?_; conv => whnf)
    rw [fi]
    refine ⟨vp_in_nI (by omega) (by omega), ?_⟩
    rw [nI_clamp (by omega), h47]
    repeat (refine hP _ ?_; conv => whnf)
    refine ⟨fun z => ?_, fun z => ?_⟩
    · have hs1 : s.set = -1 := by
        by_cases y : s.set = -1
        · exact y
        · rw [if_neg y] at z; exact absurd z (by decide)
      iterate 2 (refine hP _ ?_; conv => whnf)
      rw [show m_fv (m_up I 30 35 (nI x.2.2)) L 9 30 36 none = .int (-1) from congrArg Value.int (show m_up I 30 35 (nI x.2.2) 30 36 = -1 by simp [m_upr, f36, hs1])]
      rw [hset.trans (if_pos hs1)] at tail
      exact tail
    · have hs1 : ¬ s.set = -1 := fun y => z (by rw [if_pos y])
      iterate 10 (refine hP _ ?_; conv => whnf)
      rw [show m_up I 30 35 (nI x.2.2) 30 36 = s.set by simp [m_upr, f36], show m_up I 30 35 (nI x.2.2) 30 35 = nI x.2.2 by simp [m_upr]]
      rw [hset.trans (if_neg hs1)] at tail
      exact tail
  repeat (refine hP _ ?_; conv => whnf)
  rw [fi]
  refine ⟨vp_in_nI (by omega) (by omega), ?_⟩
  rw [nI_clamp (by omega), h46]
  repeat (refine hP _ ?_; conv => whnf)
  rw [f44]
  have cont : ∀ (v : Int32), (v = 0 ∧ ¬ isB st ∨ v = 1 ∧ isB st) → P (40, [some (.ref 30), some (.int (if s.set = -1 then 0 else 1)), none], [.int v], (m_SH, I, L), 0, 0) := by
    intro v hv
    repeat (refine hP _ ?_; conv => whnf)
    refine ⟨fun z => ?_, fun z => ?_⟩
    · exact good (fun y => by rcases hv with h | h; exact h.2 y.1; rw [h.1] at z; exact absurd z (by decide)) _
    · have hB : v = 1 ∧ isB st := hv.resolve_left (fun y => z y.1)
      obtain ⟨rfl, hB⟩ := hB
      repeat (refine hP _ ?_; conv => whnf)
      rw [hval]
      refine ⟨fun y => good (fun w => w.2.1 y) _, fun y => ?_⟩
      repeat (refine hP _ ?_; conv => whnf)
      refine ⟨fun w => ?_, fun w => ?_⟩
      · refine good (fun u => u.2.2 ?_) _
        by_cases q : s.set = -1
        · exact q
        · rw [if_neg q] at w; exact absurd w (by decide)
      · exact bad hB y (fun q => w (by rw [if_pos q]))
  refine ⟨fun z => ?_, fun z => ?_⟩
  · have h2 : 1 < (x :: st).length := (nI_ltI (a := 1) (b := (x :: st).length) (by omega) (by omega)).mp z
    cases st with
    | nil => simp at h2
    | cons y st' =>
      have hl2 : (x :: y :: st').length = st'.length + 2 := rfl
      have fi2 : nI (x :: y :: st').length - 2 = nI st'.length := by
        rw [hl2, show (2 : Int32) = nI 2 from rfl, sub_nI (by omega)]
        rfl
      repeat (refine hP _ ?_; conv => whnf)
      rw [f44, fi2]
      refine ⟨vp_in_nI (by omega) (by omega), ?_⟩
      rw [nI_clamp (by omega), a5.1.2]
      repeat (refine hP _ ?_; conv => whnf)
      have e4 := nI_eq (a := y.1) (b := 4) (by have := a5.1.1; omega) (by omega)
      refine ⟨fun q => ?_, fun q => ?_⟩
      · by_cases g : y.1 = 4
        · rw [g] at q
          first
            | exact absurd rfl q
            | (iterate 2 (refine hP _ ?_; conv => whnf)
               exact cont 1 (Or.inr ⟨rfl, isB_c.mpr g⟩))
        · first
            | exact absurd q (fun w => g (e4.mp w))
            | (iterate 1 (refine hP _ ?_; conv => whnf)
               exact cont 0 (Or.inl ⟨rfl, fun w => g (isB_c.mp w)⟩))
      · by_cases g : y.1 = 4
        · first
            | exact absurd (e4.mpr g) q
            | (iterate 2 (refine hP _ ?_; conv => whnf)
               exact cont 1 (Or.inr ⟨rfl, isB_c.mpr g⟩))
        · first
            | exact absurd (fun w => g (e4.mp w)) q
            | (iterate 1 (refine hP _ ?_; conv => whnf)
               exact cont 0 (Or.inl ⟨rfl, fun w => g (isB_c.mp w)⟩))
  · have hle : ¬ 1 < (x :: st).length := fun y => z (nI_lt (a := 1) y (by omega))
    iterate 1 (refine hP _ ?_; conv => whnf)
    refine cont 0 (Or.inl ⟨rfl, fun y => ?_⟩)
    cases st with
    | nil => exact absurd y (by decide)
    | cons _ _ => simp at hle
