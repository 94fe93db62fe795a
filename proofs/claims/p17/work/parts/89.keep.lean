/-! ===== what a call keeps ===== -/
def U_c : Nat → Nat → Bool := fun p _ => p < 8 || 26 < p
def U_cL : Nat → Nat → Bool := fun p _ => p < 8 || 26 < p
def U_r : Nat → Nat → Bool := fun p q => p < 30 || (p == 30 && (q == 2 || q == 10 || q == 11 || q == 47 || q == 48 || q == 49)) || (30 < p && p < 33) || (43 < p && p < 54) || 56 < p
def U_rL : Nat → Nat → Bool := fun p _ => p < 33
theorem UC.ag {s : JSt} {I I' : Nat → Nat → Int32} {L L' : Nat → Nat → Int64} (h : UC s I L) (hF : Fr U_c I I') (hL : Fr U_cL L L') : UC s I' L' := by
  have t : ∀ p q, 8 ≤ p → p ≤ 26 → I' p q = I p q := fun p q h1 h2 => hF p q (by unfold U_c; simp; omega)
  have u : ∀ p q, 8 ≤ p → p ≤ 26 → L' p q = L p q := fun p q h1 h2 => hL p q (by unfold U_cL; simp; omega)
  obtain ⟨hAI, ⟨a1, a2⟩, ⟨b1, b2, b3⟩, ⟨⟨f1, f2, f3, f4, f5, f6⟩, ⟨g1, g2, g3⟩, ⟨l1, l2, l3, l4⟩, ⟨n1, n2, n3⟩⟩, ⟨k1, k2⟩, k3⟩ := h
  refine ⟨hAI, ⟨by rw [t 8 6 (by omega) (by omega)]; exact a1, a2⟩, ⟨by rw [t 13 3 (by omega) (by omega)]; exact b1, b2, fun j hj => by rw [t 14 j (by omega) (by omega), t 15 j (by omega) (by omega), t 16 j (by omega) (by omega)]; exact b3 j hj⟩, ⟨⟨?_, ?_, ?_, ?_, ?_, ?_⟩, ⟨?_, g2, fun j hj => ?_⟩, ⟨?_, l2, fun j y hy => ?_, l4⟩, ⟨?_, n2, fun e y hy => ?_⟩⟩, ⟨k1, fun j y hy => ?_⟩, ?_⟩
  · rw [t 8 1 (by omega) (by omega)]; exact f1
  · rw [t 8 2 (by omega) (by omega)]; exact f2
  · rw [t 17 7 (by omega) (by omega)]; exact f3
  · rw [t 8 3 (by omega) (by omega)]; exact f4
  · rw [t 8 7 (by omega) (by omega)]; exact f5
  · rw [t 8 8 (by omega) (by omega)]; exact f6
  · rw [t 8 4 (by omega) (by omega)]; exact g1
  · rw [t 9 j (by omega) (by omega)]; exact g3 j hj
  · rw [t 8 5 (by omega) (by omega)]; exact l1
  · rw [t 10 j (by omega) (by omega), t 11 j (by omega) (by omega), u 12 j (by omega) (by omega)]; exact l3 j y hy
  · rw [t 17 6 (by omega) (by omega)]; exact n1
  · have := n3 e y hy
    simp only [t 21 _ (by omega) (by omega), u 20 _ (by omega) (by omega), u 22 _ (by omega) (by omega), u 19 _ (by omega) (by omega)]
    exact this
  · rw [t 24 j (by omega) (by omega), t 25 j (by omega) (by omega), t 26 j (by omega) (by omega)]; exact k2 j y hy
  · rw [t 23 3 (by omega) (by omega)]; exact k3
theorem UR.ag {s : JSt} {I I' : Nat → Nat → Int32} {L L' : Nat → Nat → Int64} (h : UR s I L) (hF : Fr U_r I I') (hL : Fr U_rL L L') : UR s I' L' := by
  have t : ∀ p q, 33 ≤ p → (p ≤ 43 ∨ (54 ≤ p ∧ p ≤ 56)) → I' p q = I p q := fun p q h1 h2 => hF p q (by unfold U_r; simp; omega)
  have v : ∀ q, ¬ (q = 2 ∨ q = 10 ∨ q = 11 ∨ q = 47 ∨ q = 48 ∨ q = 49) → I' 30 q = I 30 q := fun q h1 => hF 30 q (by unfold U_r; simp; omega)
  have u : ∀ p q, 33 ≤ p → L' p q = L p q := fun p q h1 => hL p q (by unfold U_rL; simp; omega)
  obtain ⟨⟨⟨a1, a2, a3⟩, b, ⟨c1, c2, c3, c4⟩, ⟨d1, d2, d3⟩, f1, f2, f3, f4, f5, f6, f7⟩, ⟨g1, g2⟩, ⟨h1, h2, h3⟩, ⟨k1, k2⟩, k3⟩ := h
  refine ⟨⟨⟨?_, a2, fun e y hy => ?_⟩, fun w => ?_, ⟨?_, c2, c3, fun j hj => ?_⟩, ⟨?_, d2, fun j y hy => ?_⟩, ?_, ?_, f3, ?_, f5, fun q1 q2 => ?_, f7⟩, ⟨?_, g2⟩, ⟨h1, fun j y hy => ?_, ?_⟩, ⟨k1, fun j y hy => ?_⟩, ?_⟩
  · rw [v 12 (by omega)]; exact a1
  · have := a3 e y hy
    simp only [t 34 _ (by omega) (by omega), u 33 _ (by omega), u 35 _ (by omega)]
    exact this
  · rw [v 16 (by omega), v 17 (by omega), v 18 (by omega)]; exact b w
  · rw [v 19 (by omega)]; exact c1
  · rw [t 36 j (by omega) (by omega)]; exact c4 j hj
  · rw [v 21 (by omega)]; exact d1
  · rw [t 37 j (by omega) (by omega), t 38 j (by omega) (by omega), t 40 j (by omega) (by omega), u 39 j (by omega)]; exact d3 j y hy
  · rw [v 27 (by omega)]; exact f1
  · rw [v 28 (by omega)]; exact f2
  · rw [v 29 (by omega)]; exact f4
  · rw [v 46 (by omega)]; exact f6 q1 q2
  · rw [v 26 (by omega)]; exact g1
  · rw [t 41 j (by omega) (by omega), t 42 j (by omega) (by omega), t 43 j (by omega) (by omega)]; exact h2 j y hy
  · rw [t 41 _ (by omega) (by omega), t 42 _ (by omega) (by omega), t 43 _ (by omega) (by omega)]; exact h3
  · rw [t 54 j (by omega) (by omega), t 55 j (by omega) (by omega), t 56 j (by omega) (by omega)]; exact k2 j y hy
  · rw [v 52 (by omega)]; exact k3
theorem UI.ag {I I' : Nat → Nat → Int32} {L L' : Nat → Nat → Int64} (h : UI I L) (h0 : I' 8 0 = I 8 0) (h1 : I' 30 11 = I 30 11) (hc : Fr U_c I I') (hcL : Fr U_cL L L') (hr : Fr U_r I I') (hrL : Fr U_rL L L') : UI I' L' := by
  rcases h with ⟨x1, x2, x3, x4⟩ | ⟨x1, x2, s, hC, hR, hW, hA⟩
  · exact Or.inl ⟨h0.trans x1, h1.trans x2, (hc 23 3 rfl).trans x3, (hr 30 52 rfl).trans x4⟩
  · exact Or.inr ⟨h0.trans x1, h1.trans x2, s, hC.ag hc hcL, hR.ag hr hrL, hW, hA⟩
/-! the two readings, as the class and as the reference reads -/
def Ag (r r' : JRs) : Prop := (∃ s, r = .ok s ∧ r' = .ok s) ∨ ((∃ e, r = .error e) ∧ ∃ e, r' = .error e)
theorem Ag.rf (r : JRs) : Ag r r := by
  cases r with
  | ok s => exact Or.inl ⟨s, rfl, rfl⟩
  | error e => exact Or.inr ⟨⟨e, rfl⟩, ⟨e, rfl⟩⟩
theorem Ag.jb {r r' : JRs} {f g : JSt → JRs} (h : Ag r r') (hf : ∀ s, Ag (f s) (g s)) : Ag (jb r f) (jb r' g) := by
  rcases h with ⟨s, rfl, rfl⟩ | ⟨⟨e, rfl⟩, ⟨e', rfl⟩⟩
  · exact hf s
  · exact Or.inr ⟨⟨e, rfl⟩, ⟨e', rfl⟩⟩
theorem Ag.kd {tx : List Nat} {r r' : JRs} (h : Ag r r') : jkd tx r = jkd tx r' := by
  rcases h with ⟨s, rfl, rfl⟩ | ⟨⟨e, rfl⟩, ⟨e', rfl⟩⟩ <;> rfl
theorem Ag.adv {r r' : JRs} (h : Ag r r') : Ag (jadv r) (jadv r') := h.jb (fun _ => Ag.rf _)
theorem Ag.lab {tx : List Nat} {r r' : JRs} (h : Ag r r') : Ag (jlab tx true r) (jlab tx false r') := by
  unfold jlab
  refine h.jb (fun s => ?_)
  by_cases h1 : (tk tx s.k).1 = 25
  · rw [if_pos h1, if_pos h1]
    by_cases h2 : ¬ s.srt = 0
    · rw [if_pos h2, if_pos h2]
      exact Ag.rf _
    · rw [if_neg h2, if_neg h2]
      by_cases h3 : (tk tx (s.k + 1)).1 = 17
      · rw [if_pos h3, if_pos h3]
        exact Ag.rf _
      · rw [if_neg h3, if_neg h3, if_neg (show ¬ (false = true ∧ 32 ≤ s.lbs.length) from fun z => absurd z.1 (by decide))]
        by_cases h4 : true = true ∧ 32 ≤ s.lbs.length
        · rw [if_pos h4]
          exact Or.inr ⟨⟨_, rfl⟩, ⟨_, rfl⟩⟩
        · rw [if_neg h4]
          exact Ag.rf _
  · rw [if_neg h1, if_neg h1]
    exact Ag.rf _
theorem Ag.llp {tx : List Nat} : ∀ (i : Nat) {r r' : JRs}, Ag r r' → Ag (jllp tx true i r) (jllp tx false i r')
  | 0, _, _, h => h
  | i + 1, r, r', h => by
    unfold jllp
    rw [h.kd (tx := tx)]
    by_cases g : jkd tx r' = 23
    · rw [if_pos g, if_pos g]
      exact Ag.llp i (Ag.lab h.adv)
    · rw [if_neg g, if_neg g]
      exact h
theorem Ag.arm {tx : List Nat} {r r' : JRs} (h : Ag r r') : Ag (jarm tx true r) (jarm tx false r') := by
  unfold jarm
  refine h.jb (fun s => ?_)
  by_cases h1 : (tk tx s.k).1 = 7 ∧ ¬ s.dfl < 0
  · rw [if_pos h1, if_pos h1]
    exact Ag.rf _
  rw [if_neg h1, if_neg h1]
  by_cases h2 : 20 ≤ s.ars.length
  · rw [if_pos h2, if_pos h2]
    exact Ag.rf _
  rw [if_neg h2, if_neg h2]
  by_cases h3 : (tk tx s.k).1 = 7
  · rw [if_pos h3, if_pos h3]
    exact Ag.rf _
  rw [if_neg h3, if_neg h3]
  exact Ag.jb (Ag.llp 32 (Ag.lab (Ag.rf _))) (fun _ => Ag.rf _)
theorem Ag.arms {tx : List Nat} : ∀ (i : Nat) {r r' : JRs}, Ag r r' → Ag (jarms tx true i r) (jarms tx false i r')
  | 0, _, _, h => h
  | i + 1, r, r', h => by
    unfold jarms
    rw [h.kd (tx := tx)]
    by_cases g : jkd tx r' = 6 ∨ jkd tx r' = 7
    · rw [if_pos g, if_pos g]
      exact Ag.arms i h.arm
    · rw [if_neg g, if_neg g]
      exact h
theorem Ag.all (tx : List Nat) (s : JSt) : Ag (jall tx true s) (jall tx false s) := by
  unfold jall jlst
  exact (Ag.arms 21 (Ag.rf _)).jb (fun _ => Ag.rf _)
