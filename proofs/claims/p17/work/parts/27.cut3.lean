/-! ===== the row of tokens ===== -/
def tke (tx : List Nat) : Nat → Nat
  | 0 => 0
  | k + 1 => (tokAt tx (scan qB tx (tke tx k))).2.2.2.2
def tk (tx : List Nat) (k : Nat) : Tok := tokAt tx (scan qB tx (tke tx k))
/-- the last token is number m -/
def TkM (tx : List Nat) (m : Nat) : Prop := ((tk tx m).1 = 27 ∨ (tk tx m).1 = 28) ∧ ∀ k, k < m → ¬ (tk tx k).1 = 27 ∧ ¬ (tk tx k).1 = 28
def TkC (tx : List Nat) (m : Nat) (I : Nat → Nat → Int32) (L : Nat → Nat → Int64) : Prop := I 3 4 = nI (m + 1) ∧ ∀ k, k ≤ m → I 4 k = nI (tk tx k).1 ∧ I 5 k = nI (tk tx k).2.1 ∧ L 6 k = cval (tk tx k)
def S_tk : Nat → Nat → Bool := fun p q => p == 4 || p == 5 || (p == 3 && q == 4)
def S_tkL : Nat → Nat → Bool := fun p _ => p == 6
theorem tk_27 {tx : List Nat} {i : Nat} (hi : i ≤ tx.length) : (tokAt tx i).1 = 27 ↔ i = tx.length := by
  constructor
  · intro h
    by_cases hl : i = tx.length
    · exact hl
    · have h28 : ¬ (tokAt tx i).1 = 28 := by rw [h]; decide
      exact absurd h (tokAt_end (by omega) h28).2.2.2.1
  · intro h
    unfold tokAt
    rw [if_pos (by omega)]
theorem tkC_mid {c : Nat} {tx : List Nat} {I : Nat → Nat → Int32} {L : Nat → Nat → Int64} (h : ∀ k, k < c → I 4 k = nI (tk tx k).1 ∧ I 5 k = nI (tk tx k).2.1 ∧ L 6 k = cval (tk tx k)) :
    ∀ k, k < c + 1 → keepI (tk tx c).1 (tk tx c).2.1 c I 4 k = nI (tk tx k).1 ∧ keepI (tk tx c).1 (tk tx c).2.1 c I 5 k = nI (tk tx k).2.1 ∧ m_upL L 6 c (cval (tk tx c)) 6 k = cval (tk tx k) := by
  intro k hk
  by_cases hkc : k = c
  · subst hkc
    simp [keepI, m_upr, m_uprL]
  · have := h k (by omega)
    simp [keepI, m_upr, m_uprL, hkc, this]
theorem keepI_Fr {I J : Nat → Nat → Int32} {k p c : Nat} (h : Fr S_tk I J) : Fr S_tk I (keepI k p c J) := ((h.up (by simp [S_tk])).up (by simp [S_tk])).up (by simp [S_tk])
theorem TxC.fr {tx : List Nat} {I J : Nat → Nat → Int32} {S : Nat → Nat → Bool} (h : TxC tx I) (hF : Fr S I J) (h1 : S 1 1 = false) (h2 : ∀ j, S 2 j = false) : TxC tx J := ⟨by rw [hF 1 1 h1]; exact h.1, fun j hj => by rw [hF 2 j (h2 j)]; exact h.2 j hj⟩
set_option maxHeartbeats 1000000 in
theorem c_cut {XL : Nat} {XS : Nat → Int32} {n : Nat} {C : mC} {I : Nat → Nat → Int32} {L : Nat → Nat → Int64} {K : mK} {tx : List Nat} (hC : m_Ge XL XS (n + 5) C) (ht : TxOk tx) (h : TxC tx I) (hw : WdC L)
    (hK : ∀ m I' L', m ≤ tx.length → TkM tx m → TkC tx m I' L' → Fr S_tk I I' → Fr S_tkL L L' → K none (m_SH, I', L')) : C 63 [.ref 3, .ref 1] (m_SH, I, L) K := by
  have hl := ht.1
  refine e_X6_cut hC (Nat.le_of_ble_eq_true rfl) ?_
  intro C' hC' P hP
  have loop : ∀ (r i : Nat) (J : Nat → Nat → Int32) (M : Nat → Nat → Int64) (d4 d5 : Option Value), tx.length < tke tx i + r → i ≤ tke tx i → tke tx i ≤ tx.length → (∀ k, k < i → ¬ (tk tx k).1 = 27 ∧ ¬ (tk tx k).1 = 28) → J 3 4 = nI i → (∀ k, k < i → J 4 k = nI (tk tx k).1 ∧ J 5 k = nI (tk tx k).2.1 ∧ M 6 k = cval (tk tx k)) → Fr S_tk I J → Fr S_tkL L M →
      P (9, [some (.ref 3), some (.ref 1), some (.int (nI (tke tx i))), some (.int (nI i)), d4, d5], [], (m_SH, J, M), 0, 0) := by
    intro r
    induction r with
    | zero => intro i J M d4 d5 h1 h2 h3; omega
    | succ r ih =>
      intro i J M d4 d5 h1 h2 h3 hno hc hall hFI hFL
      have hJ : TxC tx J := h.fr hFI rfl (fun _ => rfl)
      have hwM : WdC M := fun j hj => by rw [hFL 7 j rfl]; exact hw j hj
      have hb := scan_le (q := qB) (tx := tx) (i := tke tx i) h3
      have htk : tk tx i = tokAt tx (scan qB tx (tke tx i)) := rfl
      repeat (refine hP _ ?_; conv => whnf)
      refine ⟨fun _ => ?_, fun q => absurd (show nI i < 3001 from nI_lt (a := i) (b := 3001) (by omega) (by omega)) q⟩
      repeat (refine hP _ ?_; conv => whnf)
      refine c_behindBlanks hC' ht hJ h3 ?_
      repeat (refine hP _ ?_; conv => whnf)
      refine c_at' hC' ht hJ (by omega) ?_
      repeat (refine hP _ ?_; conv => whnf)
      refine ⟨fun q => ?_, fun q => ?_⟩
      · -- the end
        have hend : scan qB tx (tke tx i) = tx.length := by
          by_cases hz : scan qB tx (tke tx i) < tx.length
          · rw [toc_lt hz] at q
            exact absurd q (nI_pos (by have := tx_lt ht (scan qB tx (tke tx i)); omega))
          · omega
        have h27 : (tk tx i).1 = 27 := by rw [htk]; exact (tk_27 (by omega)).mpr hend
        have hpl : tk tx i = (27, tx.length, [], 0, tx.length) := by
          rw [htk, hend]
          unfold tokAt
          rw [if_pos (Nat.le_refl _)]
        repeat (refine hP _ ?_; conv => whnf)
        show C' 74 [.ref 3, .int (nI 27), .int (J 1 1), .long 0] (m_SH, J, M) _
        rw [hJ.1]
        refine c_keep (k := 27) (p := tx.length) hC' (by omega) (by omega) hc (by omega) ?_
        repeat (refine hP _ ?_; conv => whnf)
        have e := tkC_mid hall
        have hcv : cval (tk tx i) = 0 := by rw [hpl]; rfl
        refine hK i _ _ (by omega) ⟨Or.inl h27, hno⟩ ⟨by simp [keepI, m_upr], fun k hk => ?_⟩ (keepI_Fr hFI) (hFL.upL rfl)
        have e2 := e k (by omega)
        rw [hcv] at e2
        rw [hpl] at e2
        exact e2
      · have hlt : scan qB tx (tke tx i) < tx.length := by
          by_cases hz : scan qB tx (tke tx i) < tx.length
          · exact hz
          · exact absurd (by rw [toc_ge (by omega)]; decide) q
        repeat (refine hP _ ?_; conv => whnf)
        refine c_cutOne hC' ht hJ hwM hlt hc (by omega) (fun hk => ?_) (fun hk => ?_)
        · repeat (refine hP _ ?_; conv => whnf)
          refine ⟨fun q => absurd q (nI_nlt (Nat.le_refl _) (by omega)), fun _ => ?_⟩
          repeat (refine hP _ ?_; conv => whnf)
          have hpl : tk tx i = (28, scan qB tx (tke tx i), [], 0, scan qB tx (tke tx i)) := by
            rw [htk]
            unfold tokAt at hk ⊢
            rw [if_neg (by omega)] at hk ⊢
            by_cases g1 : isSm (toc tx (scan qB tx (tke tx i))) = 1
            · rw [if_pos g1] at hk ⊢
              by_cases g2 : 8 < scan qN tx (scan qB tx (tke tx i)) - scan qB tx (tke tx i)
              · rw [if_pos g2]
              · rw [if_neg g2] at hk
                simp only at hk
                have hwx : wordIx (slice tx (scan qB tx (tke tx i)) (scan qN tx (scan qB tx (tke tx i)))) ≤ 15 := by
                  by_cases hm : slice tx (scan qB tx (tke tx i)) (scan qN tx (scan qB tx (tke tx i))) ∈ wordL
                  · have := wordIx_in hm; omega
                  · rw [wordIx_out hm]; omega
                omega
            · rw [if_neg g1] at hk ⊢
              by_cases g2 : isFg (toc tx (scan qB tx (tke tx i))) = 1
              · rw [if_pos g2] at hk ⊢
                by_cases g3 : 9 < scan qF tx (scan qB tx (tke tx i)) - scan qB tx (tke tx i)
                · rw [if_pos g3]
                · rw [if_neg g3] at hk; simp at hk
              · rw [if_neg g2] at hk ⊢
                by_cases g3 : toc tx (scan qB tx (tke tx i)) = 34
                · rw [if_pos g3] at hk ⊢
                  by_cases g4 : toc tx (scan qT tx (scan qB tx (tke tx i) + 1)) = 34 ∧ scan qT tx (scan qB tx (tke tx i) + 1) - (scan qB tx (tke tx i) + 1) ≤ 8
                  · rw [if_pos g4] at hk; simp at hk
                  · rw [if_neg g4]
                · rw [if_neg g3] at hk ⊢
                  by_cases g4 : toc tx (scan qB tx (tke tx i)) = 45 ∧ toc tx (scan qB tx (tke tx i) + 1) = 62
                  · rw [if_pos g4] at hk; simp at hk
                  · rw [if_neg g4] at hk ⊢
                    by_cases g5 : sgN (toc tx (scan qB tx (tke tx i))) = 28
                    · rw [if_pos g5]
                    · rw [if_neg g5] at hk; exact absurd hk g5
          refine c_keep (k := 28) hC' (by omega) (by omega) hc (by omega) ?_
          repeat (refine hP _ ?_; conv => whnf)
          have e := tkC_mid hall
          have hcv : cval (tk tx i) = 0 := by rw [hpl]; rfl
          have h28 : (tk tx i).1 = 28 := by rw [hpl]
          refine hK i _ _ (by omega) ⟨Or.inr h28, hno⟩ ⟨by simp [keepI, m_upr], fun k hk => ?_⟩ (keepI_Fr hFI) (hFL.upL rfl)
          have e2 := e k (by omega)
          rw [hcv] at e2
          rw [hpl] at e2
          exact e2
        · have he := tokAt_end hlt hk
          have htke : tke tx (i + 1) = (tokAt tx (scan qB tx (tke tx i))).2.2.2.2 := rfl
          repeat (refine hP _ ?_; conv => whnf)
          refine ⟨fun _ => ?_, fun q => absurd (nI_lt (by omega) (by omega)) q⟩
          iterate 4 (refine hP _ ?_; conv => whnf)
          have e := ih (i + 1) _ _ (some (.int (toc tx (scan qB tx (tke tx i))))) (some (.int (nI (tokAt tx (scan qB tx (tke tx i))).2.2.2.2))) (by omega) (by omega) (by omega) (fun k hk2 => by
            by_cases hki : k = i
            · subst hki; exact ⟨he.2.2.2.1, hk⟩
            · exact hno k (by omega)) (by simp [keepI, m_upr]) (tkC_mid hall) (keepI_Fr hFI) (hFL.upL rfl)
          rw [← nI_1, htke] at e
          rw [htk, he.2.2.2.2] at e
          exact e
  iterate 7 (refine hP _ ?_; conv => whnf)
  exact loop (tx.length + 1) 0 _ _ none none (by simp [tke]) (by simp [tke]) (by simp [tke]) (fun k hk => by omega) (by simp [m_upr]; rfl) (fun k hk => by omega) (Fr.rf.up (by simp [S_tk])) Fr.rf
