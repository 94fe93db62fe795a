/-! ===== the reference's read, whole ===== -/
def S_re : Nat → Nat → Bool := fun p q => S_rd p q || S_kt p q || (p == 30 && (q == 2 || q == 10 || q == 11 || q == 47 || q == 48))
theorem S_rd_re {p q : Nat} (h : S_re p q = false) : S_rd p q = false := by
  unfold S_re at h
  simp at h
  exact h.1.1
theorem S_kt_re {p q : Nat} (h : S_re p q = false) : S_kt p q = false := by
  unfold S_re at h
  simp at h
  exact h.1.2
/-- the unit, as the reference holds it -/
def UR (s : JSt) (I : Nat → Nat → Int32) (L : Nat → Nat → Int64) : Prop := RU true 0 s I L ∧ (I 30 26 = nI s.sm ∧ s.sm ≤ 120) ∧ (s.cd.length ≤ 260 ∧ (∀ j x, s.cd[j]? = some x → (I 41 j, I 42 j, I 43 j) = mcd x) ∧ (I 41 s.cd.length, I 42 s.cd.length, I 43 s.cd.length) = (3, 0, 0)) ∧ KR 54 55 56 (ktab s.lbs) I ∧ I 30 52 = nI (ktab s.lbs).length
def jret : JRs → Int32
  | .error e => -10 - nI e.1
  | .ok s => nI s.ars.length
/-- what a reading leaves -/
def RDone (r : JRs) (I : Nat → Nat → Int32) (L : Nat → Nat → Int64) : Prop := match r with
  | .error e => I 30 11 = 0 ∧ I 30 10 = nI e.2 ∧ I 30 52 = 0
  | .ok s => I 30 11 = 1 ∧ I 30 10 = -1 ∧ UR s I L
theorem RU.ef {hd : Bool} {p : Nat} {s : JSt} {S : Nat → Nat → Bool} {I I' : Nat → Nat → Int32} {L : Nat → Nat → Int64} (h : RU hd p s I L) (hF : Fr S I I') (h0 : ∀ p q, S p q = true → (p = 30 ∧ (q = 33 ∨ q = 2 ∨ q = 10 ∨ q = 11 ∨ q = 52)) ∨ (41 ≤ p ∧ p ≤ 43) ∨ (54 ≤ p ∧ p ≤ 56)) : RU hd p s I' L := by
  have t : ∀ a b, ¬ ((a = 30 ∧ (b = 33 ∨ b = 2 ∨ b = 10 ∨ b = 11 ∨ b = 52)) ∨ (41 ≤ a ∧ a ≤ 43) ∨ (54 ≤ a ∧ a ≤ 56)) → I' a b = I a b := fun a b hab => hF a b (by
    cases hs : S a b with
    | false => rfl
    | true => exact absurd (h0 a b hs) hab)
  obtain ⟨⟨a1, a2, a3⟩, b, ⟨c1, c2, c3, c4⟩, ⟨d1, d2, d3⟩, f1, f2, f3, f4, f5, f6, f7⟩ := h
  refine ⟨⟨?_, a2, fun e y hy => ?_⟩, fun w => ?_, ⟨?_, c2, c3, fun j hj => ?_⟩, ⟨?_, d2, fun j y hy => ?_⟩, ?_, ?_, f3, ?_, f5, fun q1 q2 => ?_, f7⟩
  · rw [t 30 12 (by omega)]; exact a1
  · rw [t 34 e (by omega)]; exact a3 e y hy
  · rw [t 30 16 (by omega), t 30 17 (by omega), t 30 18 (by omega)]; exact b w
  · rw [t 30 19 (by omega)]; exact c1
  · rw [t 36 j (by omega)]; exact c4 j hj
  · rw [t 30 21 (by omega)]; exact d1
  · rw [t 37 j (by omega), t 38 j (by omega), t 40 j (by omega)]; exact d3 j y hy
  · rw [t 30 27 (by omega)]; exact f1
  · rw [t 30 28 (by omega)]; exact f2
  · rw [t 30 29 (by omega)]; exact f4
  · rw [t 30 46 (by omega)]; exact f6 q1 q2
theorem r_read {XL : Nat} {XS : Nat → Int32} {n : Nat} {C : mC} {I : Nat → Nat → Int32} {L : Nat → Nat → Int64} {K : mK} {tx : List Nat} {m : Nat} (v t : Int32) (hC : m_Ge XL XS (n + 11) C) (ht : TxOk tx) (hT : TxM tx I) (hw : WdM L) (hB : BB I) (hm : TkM tx m) (hml : m ≤ tx.length)
    (hK : ∀ I' L', Fr S_re I I' → Fr S_rdL L L' → BB I' → I' 30 2 = 0 → I' 30 47 = 0 → I' 30 48 = 0 → RDone (jall tx false (js0 v t)) I' L' → K (some (.int (jret (jall tx false (js0 v t))))) (m_SH, I', L')) : C 144 [.ref 30] (m_SH, I, L) K := by
  refine e_X9_read hC (Nat.le_of_ble_eq_true rfl) ?_
  intro C' hC' P hP
  repeat (refine hP _ ?_; conv => whnf)
  refine ⟨Or.inl rfl, ?_⟩
  repeat (refine hP _ ?_; conv => whnf)
  refine ⟨Or.inl rfl, ?_⟩
  repeat (refine hP _ ?_; conv => whnf)
  refine ⟨Or.inl rfl, ?_⟩
  repeat (refine hP _ ?_; conv => whnf)
  refine ⟨Or.inl rfl, ?_⟩
  repeat (refine hP _ ?_; conv => whnf)
  have hF0 : Fr S_re I (m_up (m_up (m_up (m_up (m_up (m_up (m_up (m_up (m_up (m_up (m_up (m_up (m_up (m_up (m_up (m_up I 30 3 0) 30 8 0) 30 11 0) 30 47 0) 30 48 0) 30 12 0) 30 19 0) 30 21 0) 30 26 0) 30 33 0) 30 35 0) 30 44 0) 30 45 0) 30 27 (-1)) 30 28 0) 30 29 0) :=
    (((((((((((((((Fr.rf.up rfl).up rfl).up rfl).up rfl).up rfl).up rfl).up rfl).up rfl).up rfl).up rfl).up rfl).up rfl).up rfl).up rfl).up rfl).up rfl
  have hT0 : TxM tx (m_up (m_up (m_up (m_up (m_up (m_up (m_up (m_up (m_up (m_up (m_up (m_up (m_up (m_up (m_up (m_up I 30 3 0) 30 8 0) 30 11 0) 30 47 0) 30 48 0) 30 12 0) 30 19 0) 30 21 0) 30 26 0) 30 33 0) 30 35 0) 30 44 0) 30 45 0) 30 27 (-1)) 30 28 0) 30 29 0) := ⟨by simp [m_upr]; exact hT.1, fun j hj => by simp [m_upr]; simpa using hT.2 j hj⟩
  have hB0 : BB (m_up (m_up (m_up (m_up (m_up (m_up (m_up (m_up (m_up (m_up (m_up (m_up (m_up (m_up (m_up (m_up I 30 3 0) 30 8 0) 30 11 0) 30 47 0) 30 48 0) 30 12 0) 30 19 0) 30 21 0) 30 26 0) 30 33 0) 30 35 0) 30 44 0) 30 45 0) 30 27 (-1)) 30 28 0) 30 29 0) := hB.of (fun j => by simp [m_upr])
  have z3 : (m_up (m_up (m_up (m_up (m_up (m_up (m_up (m_up (m_up (m_up (m_up (m_up (m_up (m_up (m_up (m_up I 30 3 0) 30 8 0) 30 11 0) 30 47 0) 30 48 0) 30 12 0) 30 19 0) 30 21 0) 30 26 0) 30 33 0) 30 35 0) 30 44 0) 30 45 0) 30 27 (-1)) 30 28 0) 30 29 0) 30 3 = 0 := by simp [m_upr]
  have z8 : (m_up (m_up (m_up (m_up (m_up (m_up (m_up (m_up (m_up (m_up (m_up (m_up (m_up (m_up (m_up (m_up I 30 3 0) 30 8 0) 30 11 0) 30 47 0) 30 48 0) 30 12 0) 30 19 0) 30 21 0) 30 26 0) 30 33 0) 30 35 0) 30 44 0) 30 45 0) 30 27 (-1)) 30 28 0) 30 29 0) 30 8 = 0 := by simp [m_upr]
  have z47 : (m_up (m_up (m_up (m_up (m_up (m_up (m_up (m_up (m_up (m_up (m_up (m_up (m_up (m_up (m_up (m_up I 30 3 0) 30 8 0) 30 11 0) 30 47 0) 30 48 0) 30 12 0) 30 19 0) 30 21 0) 30 26 0) 30 33 0) 30 35 0) 30 44 0) 30 45 0) 30 27 (-1)) 30 28 0) 30 29 0) 30 47 = 0 := by simp [m_upr]
  have z48 : (m_up (m_up (m_up (m_up (m_up (m_up (m_up (m_up (m_up (m_up (m_up (m_up (m_up (m_up (m_up (m_up I 30 3 0) 30 8 0) 30 11 0) 30 47 0) 30 48 0) 30 12 0) 30 19 0) 30 21 0) 30 26 0) 30 33 0) 30 35 0) 30 44 0) 30 45 0) 30 27 (-1)) 30 28 0) 30 29 0) 30 48 = 0 := by simp [m_upr]
  have z12 : (m_up (m_up (m_up (m_up (m_up (m_up (m_up (m_up (m_up (m_up (m_up (m_up (m_up (m_up (m_up (m_up I 30 3 0) 30 8 0) 30 11 0) 30 47 0) 30 48 0) 30 12 0) 30 19 0) 30 21 0) 30 26 0) 30 33 0) 30 35 0) 30 44 0) 30 45 0) 30 27 (-1)) 30 28 0) 30 29 0) 30 12 = 0 := by simp [m_upr]
  have z19 : (m_up (m_up (m_up (m_up (m_up (m_up (m_up (m_up (m_up (m_up (m_up (m_up (m_up (m_up (m_up (m_up I 30 3 0) 30 8 0) 30 11 0) 30 47 0) 30 48 0) 30 12 0) 30 19 0) 30 21 0) 30 26 0) 30 33 0) 30 35 0) 30 44 0) 30 45 0) 30 27 (-1)) 30 28 0) 30 29 0) 30 19 = 0 := by simp [m_upr]
  have z21 : (m_up (m_up (m_up (m_up (m_up (m_up (m_up (m_up (m_up (m_up (m_up (m_up (m_up (m_up (m_up (m_up I 30 3 0) 30 8 0) 30 11 0) 30 47 0) 30 48 0) 30 12 0) 30 19 0) 30 21 0) 30 26 0) 30 33 0) 30 35 0) 30 44 0) 30 45 0) 30 27 (-1)) 30 28 0) 30 29 0) 30 21 = 0 := by simp [m_upr]
  have z26 : (m_up (m_up (m_up (m_up (m_up (m_up (m_up (m_up (m_up (m_up (m_up (m_up (m_up (m_up (m_up (m_up I 30 3 0) 30 8 0) 30 11 0) 30 47 0) 30 48 0) 30 12 0) 30 19 0) 30 21 0) 30 26 0) 30 33 0) 30 35 0) 30 44 0) 30 45 0) 30 27 (-1)) 30 28 0) 30 29 0) 30 26 = 0 := by simp [m_upr]
  have z33 : (m_up (m_up (m_up (m_up (m_up (m_up (m_up (m_up (m_up (m_up (m_up (m_up (m_up (m_up (m_up (m_up I 30 3 0) 30 8 0) 30 11 0) 30 47 0) 30 48 0) 30 12 0) 30 19 0) 30 21 0) 30 26 0) 30 33 0) 30 35 0) 30 44 0) 30 45 0) 30 27 (-1)) 30 28 0) 30 29 0) 30 33 = 0 := by simp [m_upr]
  have z35 : (m_up (m_up (m_up (m_up (m_up (m_up (m_up (m_up (m_up (m_up (m_up (m_up (m_up (m_up (m_up (m_up I 30 3 0) 30 8 0) 30 11 0) 30 47 0) 30 48 0) 30 12 0) 30 19 0) 30 21 0) 30 26 0) 30 33 0) 30 35 0) 30 44 0) 30 45 0) 30 27 (-1)) 30 28 0) 30 29 0) 30 35 = 0 := by simp [m_upr]
  have z44 : (m_up (m_up (m_up (m_up (m_up (m_up (m_up (m_up (m_up (m_up (m_up (m_up (m_up (m_up (m_up (m_up I 30 3 0) 30 8 0) 30 11 0) 30 47 0) 30 48 0) 30 12 0) 30 19 0) 30 21 0) 30 26 0) 30 33 0) 30 35 0) 30 44 0) 30 45 0) 30 27 (-1)) 30 28 0) 30 29 0) 30 44 = 0 := by simp [m_upr]
  have z45 : (m_up (m_up (m_up (m_up (m_up (m_up (m_up (m_up (m_up (m_up (m_up (m_up (m_up (m_up (m_up (m_up I 30 3 0) 30 8 0) 30 11 0) 30 47 0) 30 48 0) 30 12 0) 30 19 0) 30 21 0) 30 26 0) 30 33 0) 30 35 0) 30 44 0) 30 45 0) 30 27 (-1)) 30 28 0) 30 29 0) 30 45 = 0 := by simp [m_upr]
  have z27 : (m_up (m_up (m_up (m_up (m_up (m_up (m_up (m_up (m_up (m_up (m_up (m_up (m_up (m_up (m_up (m_up I 30 3 0) 30 8 0) 30 11 0) 30 47 0) 30 48 0) 30 12 0) 30 19 0) 30 21 0) 30 26 0) 30 33 0) 30 35 0) 30 44 0) 30 45 0) 30 27 (-1)) 30 28 0) 30 29 0) 30 27 = -1 := by simp [m_upr]
  have z28 : (m_up (m_up (m_up (m_up (m_up (m_up (m_up (m_up (m_up (m_up (m_up (m_up (m_up (m_up (m_up (m_up I 30 3 0) 30 8 0) 30 11 0) 30 47 0) 30 48 0) 30 12 0) 30 19 0) 30 21 0) 30 26 0) 30 33 0) 30 35 0) 30 44 0) 30 45 0) 30 27 (-1)) 30 28 0) 30 29 0) 30 28 = 0 := by simp [m_upr]
  have z29 : (m_up (m_up (m_up (m_up (m_up (m_up (m_up (m_up (m_up (m_up (m_up (m_up (m_up (m_up (m_up (m_up I 30 3 0) 30 8 0) 30 11 0) 30 47 0) 30 48 0) 30 12 0) 30 19 0) 30 21 0) 30 26 0) 30 33 0) 30 35 0) 30 44 0) 30 45 0) 30 27 (-1)) 30 28 0) 30 29 0) 30 29 = 0 := by simp [m_upr]
  generalize (m_up (m_up (m_up (m_up (m_up (m_up (m_up (m_up (m_up (m_up (m_up (m_up (m_up (m_up (m_up (m_up I 30 3 0) 30 8 0) 30 11 0) 30 47 0) 30 48 0) 30 12 0) 30 19 0) 30 21 0) 30 26 0) 30 33 0) 30 35 0) 30 44 0) 30 45 0) 30 27 (-1)) 30 28 0) 30 29 0) = J0 at hF0 hT0 hB0 z3 z8 z47 z48 z12 z19 z21 z26 z33 z35 z44 z45 z27 z28 z29
  refine r_next (f := 0) (n := n + 7) hC' ht hT0 hw (Nat.zero_le _) z3 (fun I1 L1 a1 a2 a3 a4 => ?_)
  have hk0 : RTok tx 0 I1 L1 := ⟨a1, a2⟩
  have hst := RH.start (v := v) (t := t) ht hm hml hT0 hw hB0 a3 a4 hk0 z8 z12 z19 z21 z26 z33 z35 z44 z45 z27 z28 z29
  refine r_read84 (v := v) (t := t) hC' hP hst hm (fun I2 L2 h2 => ?_)
  have hF2 : Fr S_re I I2 := hF0.tr (h2.1.1.mono (fun _ _ => S_rd_re))
  have w47 : I2 30 47 = 0 := by rw [h2.1.1 30 47 rfl]; exact z47
  have w48 : I2 30 48 = 0 := by rw [h2.1.1 30 48 rfl]; exact z48
  have w11 : ∀ x, emF 3 0 0 I2 30 11 = x ↔ I2 30 11 = x := fun x => by simp [emF, m_upr]
  generalize jall tx false (js0 v t) = r at h2 hK
  cases r with
  | error e =>
    obtain ⟨u0, hX⟩ := h2.2
    obtain ⟨e1, e2, e3, e4, -⟩ := hX.er
    have hfl := hX.flt_er
    have hBB := hX.2.1.2
    repeat (refine hP _ ?_; conv => whnf)
    refine r_emitEnd (n := n + 8) hC' hX.acts ?_
    repeat (refine hP _ ?_; conv => whnf)
    rw [show m_up (emF 3 0 0 I2) 30 2 0 30 8 = nI e.1 by simp [emF, m_upr, e3]]
    refine ⟨fun _ => ?_, fun w => absurd (by rw [← e3]; exact hfl.1) w⟩
    repeat (refine hP _ ?_; conv => whnf)
    rw [show m_up (m_up (emF 3 0 0 I2) 30 2 0) 30 10 (m_up (emF 3 0 0 I2) 30 2 0 30 9) 30 8 = nI e.1 by simp [emF, m_upr, e3]]
    refine ⟨fun w => absurd w (by rw [← e3]; exact hfl.2), fun _ => ?_⟩
    repeat (refine hP _ ?_; conv => whnf)
    refine ⟨Or.inl rfl, ?_⟩
    repeat (refine hP _ ?_; conv => whnf)
    refine r_findKeysN (n := n + 9) hC' (by simp [m_upr]) ?_
    repeat (refine hP _ ?_; conv => whnf)
    rw [show m_up (m_up (m_up (m_up (emF 3 0 0 I2) 30 2 0) 30 10 (m_up (emF 3 0 0 I2) 30 2 0 30 9)) 30 11 0) 30 52 0 30 11 = 0 by simp [m_upr]]
    refine ⟨fun _ => ?_, fun w => absurd rfl w⟩
    repeat (refine hP _ ?_; conv => whnf)
    rw [show m_up (m_up (m_up (m_up (emF 3 0 0 I2) 30 2 0) 30 10 (m_up (emF 3 0 0 I2) 30 2 0 30 9)) 30 11 0) 30 52 0 30 8 = nI e.1 by simp [emF, m_upr, e3]]
    refine hK _ _ ?_ (h2.1.2.mono (fun _ _ h => h)) ?_ (by simp [m_upr]) (by simp [emF, m_upr]; exact w47) (by simp [emF, m_upr]; exact w48) ⟨by simp [m_upr], by simp [emF, m_upr, e4], by simp [m_upr]⟩
    · unfold emF
      exact (((((((hF2.up rfl).up rfl).up rfl).up rfl).up rfl).up rfl).up rfl).up rfl
    · unfold emF
      exact (((((((hBB.up (fun z => absurd z (by decide))).up (fun z => absurd z (by decide))).up (fun z => absurd z (by decide))).up (fun z => absurd z (by decide))).up (fun z => absurd z (by decide))).up (fun z => absurd z (by decide))).up (fun z => absurd z (by decide))).up (fun z => absurd z (by decide))
  | ok s =>
    obtain ⟨u0, x, hX⟩ := h2.2.1
    have hfl := hX.flt_ok
    have hBB := hX.2.1.2
    have hU := h2.2.2
    have hcl : s.cd.length ≤ 260 := hX.cdb
    have f33 : I2 30 33 = nI s.cd.length := hX.fct.2.2.1
    have hsm : I2 30 26 = nI s.sm ∧ s.sm ≤ 120 := hX.ok.2.1
    have hcd : ∀ j x, s.cd[j]? = some x → (I2 41 j, I2 42 j, I2 43 j) = mcd x := hX.ok.2.2.2.2.1.2
    have eF : emF 3 0 0 I2 = m_up (m_up (m_up (m_up I2 41 s.cd.length 3) 42 s.cd.length 0) 43 s.cd.length 0) 30 33 (nI (s.cd.length + 1)) := by
      unfold emF
      rw [f33, nI_clamp (by omega), nI_1]
    repeat (refine hP _ ?_; conv => whnf)
    refine r_emitEnd (n := n + 8) hC' hX.acts ?_
    rw [eF]
    have g8 : m_up (m_up (m_up (m_up I2 41 s.cd.length 3) 42 s.cd.length 0) 43 s.cd.length 0) 30 33 (nI (s.cd.length + 1)) 30 8 = 0 := by simp [m_upr, hfl]
    have gF : Fr (fun p q => (p == 30 && (q == 33 || q == 2 || q == 10 || q == 11)) || (41 ≤ p && p ≤ 43)) I2 (m_up (m_up (m_up (m_up I2 41 s.cd.length 3) 42 s.cd.length 0) 43 s.cd.length 0) 30 33 (nI (s.cd.length + 1))) := (((Fr.rf.up rfl).up rfl).up rfl).up rfl
    have gR : Fr S_re I (m_up (m_up (m_up (m_up I2 41 s.cd.length 3) 42 s.cd.length 0) 43 s.cd.length 0) 30 33 (nI (s.cd.length + 1))) := (((hF2.up rfl).up rfl).up rfl).up rfl
    have gA : ∀ j x, s.cd[j]? = some x → (m_up (m_up (m_up (m_up I2 41 s.cd.length 3) 42 s.cd.length 0) 43 s.cd.length 0) 30 33 (nI (s.cd.length + 1)) 41 j, m_up (m_up (m_up (m_up I2 41 s.cd.length 3) 42 s.cd.length 0) 43 s.cd.length 0) 30 33 (nI (s.cd.length + 1)) 42 j, m_up (m_up (m_up (m_up I2 41 s.cd.length 3) 42 s.cd.length 0) 43 s.cd.length 0) 30 33 (nI (s.cd.length + 1)) 43 j) = mcd x := by
      intro j y hy
      have hj : j < s.cd.length := by
        by_cases q : j < s.cd.length
        · exact q
        · rw [List.getElem?_eq_none (by omega)] at hy; cases hy
      have hj2 : ¬ j = s.cd.length := by omega
      rw [← hcd j y hy]
      simp [m_upr, hj2]
    have gB : (m_up (m_up (m_up (m_up I2 41 s.cd.length 3) 42 s.cd.length 0) 43 s.cd.length 0) 30 33 (nI (s.cd.length + 1)) 41 s.cd.length, m_up (m_up (m_up (m_up I2 41 s.cd.length 3) 42 s.cd.length 0) 43 s.cd.length 0) 30 33 (nI (s.cd.length + 1)) 42 s.cd.length, m_up (m_up (m_up (m_up I2 41 s.cd.length 3) 42 s.cd.length 0) 43 s.cd.length 0) 30 33 (nI (s.cd.length + 1)) 43 s.cd.length) = (3, 0, 0) := by simp [m_upr]
    have gBB : BB (m_up (m_up (m_up (m_up I2 41 s.cd.length 3) 42 s.cd.length 0) 43 s.cd.length 0) 30 33 (nI (s.cd.length + 1))) := (((hBB.up (fun z => absurd z (by decide))).up (fun z => absurd z (by decide))).up (fun z => absurd z (by decide))).up (fun z => absurd z (by decide))
    generalize m_up (m_up (m_up (m_up I2 41 s.cd.length 3) 42 s.cd.length 0) 43 s.cd.length 0) 30 33 (nI (s.cd.length + 1)) = I3 at g8 gF gR gA gB gBB
    repeat (refine hP _ ?_; conv => whnf)
    rw [show m_up I3 30 2 0 30 8 = 0 by simp [m_upr, g8]]
    refine ⟨fun w => absurd w (by decide), fun _ => ?_⟩
    repeat (refine hP _ ?_; conv => whnf)
    rw [show m_up (m_up I3 30 2 0) 30 10 (-1) 30 8 = 0 by simp [m_upr, g8]]
    refine ⟨fun _ => ?_, fun w => absurd rfl w⟩
    repeat (refine hP _ ?_; conv => whnf)
    refine ⟨Or.inr rfl, ?_⟩
    have gF2 : Fr (fun p q => (p == 30 && (q == 33 || q == 2 || q == 10 || q == 11)) || (41 ≤ p && p ≤ 43)) I2 (m_up (m_up (m_up I3 30 2 0) 30 10 (-1)) 30 11 1) := ((gF.up rfl).up rfl).up rfl
    have gR2 : Fr S_re I (m_up (m_up (m_up I3 30 2 0) 30 10 (-1)) 30 11 1) := ((gR.up rfl).up rfl).up rfl
    have gBB2 : BB (m_up (m_up (m_up I3 30 2 0) 30 10 (-1)) 30 11 1) := ((gBB.up (fun z => absurd z (by decide))).up (fun z => absurd z (by decide))).up (fun z => absurd z (by decide))
    have hU2 : RU true 0 s (m_up (m_up (m_up I3 30 2 0) 30 10 (-1)) 30 11 1) L2 := hU.ef gF2 (fun p q hs => by simp at hs; omega)
    have hI4 : ∀ p j, 41 ≤ p → p ≤ 43 → m_up (m_up (m_up I3 30 2 0) 30 10 (-1)) 30 11 1 p j = I3 p j := fun p j h1 h2 => by
      have : ¬ p = 30 := by omega
      simp [m_upr, this]
    have y2 : m_up (m_up (m_up I3 30 2 0) 30 10 (-1)) 30 11 1 30 2 = 0 := by simp [m_upr]
    have y10 : m_up (m_up (m_up I3 30 2 0) 30 10 (-1)) 30 11 1 30 10 = -1 := by simp [m_upr]
    have y11 : m_up (m_up (m_up I3 30 2 0) 30 10 (-1)) 30 11 1 30 11 = 1 := by simp [m_upr]
    generalize m_up (m_up (m_up I3 30 2 0) 30 10 (-1)) 30 11 1 = I4 at gF2 gR2 gBB2 hU2 hI4 y2 y10 y11
    obtain ⟨d1, d2, d3⟩ := hU2.2.2.2.1
    repeat (refine hP _ ?_; conv => whnf)
    refine r_findKeys (lb := s.lbs) (n := n + 9) hC' y11 d1 d2 (fun j y hy => ⟨(d3 j y hy).1, (d3 j y hy).2.1⟩) (fun I5 k1 k2 hF5 => ?_)
    have hU5 : RU true 0 s I5 L2 := hU2.ef hF5 (fun p q hs => by unfold S_kt at hs; simp at hs; omega)
    have v19 : I5 30 19 = nI s.ars.length := hU5.2.2.1.1
    repeat (refine hP _ ?_; conv => whnf)
    rw [hF5 30 11 rfl, y11]
    refine ⟨fun w => absurd w (by decide), fun _ => ?_⟩
    repeat (refine hP _ ?_; conv => whnf)
    rw [v19]
    refine hK _ _ (gR2.tr (hF5.mono (fun _ _ => S_kt_re))) h2.1.2 (gBB2.of (fun j => hF5 46 j rfl)) (by rw [hF5 30 2 rfl]; exact y2) (by rw [hF5 30 47 rfl, gF2 30 47 rfl]; exact w47) (by rw [hF5 30 48 rfl, gF2 30 48 rfl]; exact w48) ⟨by rw [hF5 30 11 rfl]; exact y11, by rw [hF5 30 10 rfl]; exact y10, hU5, ⟨by rw [hF5 30 26 rfl, gF2 30 26 rfl]; exact hsm.1, hsm.2⟩, ⟨hcl, fun j y hy => ?_, ?_⟩, k1, k2⟩
    · rw [hF5 41 j rfl, hF5 42 j rfl, hF5 43 j rfl, hI4 41 j (by omega) (by omega), hI4 42 j (by omega) (by omega), hI4 43 j (by omega) (by omega)]
      exact gA j y hy
    · rw [hF5 41 _ rfl, hF5 42 _ rfl, hF5 43 _ rfl, hI4 41 _ (by omega) (by omega), hI4 42 _ (by omega) (by omega), hI4 43 _ (by omega) (by omega)]
      exact gB
