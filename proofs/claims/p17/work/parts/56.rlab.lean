/-! ===== HASHES of packed signs ===== -/
theorem pkB_app (B : Nat) (l r : List Nat) : pkB B (l ++ r) = pkB B l * B ^ r.length + pkB B r := by
  induction r generalizing l with
  | nil => simp [pkB]
  | cons c r ih =>
    have e : l ++ c :: r = (l ++ [c]) ++ r := by simp
    rw [e, ih, pkB_snoc, pkB_cons, List.length_cons, Nat.pow_succ, Nat.add_mul, Nat.mul_assoc, Nat.mul_comm B]
    omega
theorem mul8 {i : Nat} (h : i < 8) : (8 : Int32) * nI i = nI (8 * i) := by
  have : ∀ i : Fin 8, (8 : Int32) * nI i.val = nI (8 * i.val) := by decide +kernel
  exact this ⟨i, h⟩
theorem dig_at {pre r : List Nat} {c : Nat} (hr : ∀ x ∈ r, x < 256) (hc : c < 256) : pkB 256 (pre ++ c :: r) / 2 ^ (8 * r.length) % 2 ^ 8 = c := by
  have e : pre ++ c :: r = (pre ++ [c]) ++ r := by simp
  have h1 := pkB_lt (B := 256) r hr
  have h2 : (2 : Nat) ^ (8 * r.length) = 256 ^ r.length := by rw [Nat.pow_mul]
  rw [e, pkB_app, h2, Nat.mul_comm, Nat.mul_add_div (Nat.pow_pos (by decide)), Nat.div_eq_of_lt h1, pkB_snoc]
  omega
theorem oct_at {pre r : List Nat} {c : Nat} (hl : (pre ++ c :: r).length ≤ 8) (hr : ∀ x ∈ pre ++ c :: r, x < 256) : (((lN (pkB 256 (pre ++ c :: r))).toUInt64 >>> ((8 * nI r.length).toInt64.toUInt64 &&& Int64.toUInt64 63)).toInt64 &&& 255).toInt32 = nI c := by
  have h8 : r.length < 8 := by
    rw [List.length_append, List.length_cons] at hl
    omega
  have hlt : pkB 256 (pre ++ c :: r) < 2 ^ 64 := by
    have h1 := pkB_lt (B := 256) _ hr
    have h2 : 256 ^ (pre ++ c :: r).length ≤ 256 ^ 8 := Nat.pow_le_pow_right (by decide) hl
    have h3 : (256 : Nat) ^ 8 = 2 ^ 64 := by decide
    omega
  rw [mul8 h8, wb_shr hlt (by omega), show (255 : Int64) = lN (2 ^ 8 - 1) from rfl, wb_mask (Nat.lt_of_le_of_lt (Nat.div_le_self _ _) hlt) (by decide), lN_i, dig_at (fun x hx => hr x (by simp [hx])) (hr c (by simp))]
theorem jhs_snoc (l : List Nat) (c : Nat) : jhs (l ++ [c]) = 31 * jhs l + nI c := by
  unfold jhs
  rw [List.foldl_append]
  rfl
theorem r_hashOf {XL : Nat} {XS : Nat → Int32} {n : Nat} {C : mC} {I : Nat → Nat → Int32} {L : Nat → Nat → Int64} {K : mK} {cs : List Nat} (hC : m_Ge XL XS (n + 1) C) (hcs : NmOk cs) (hK : K (some (.int (jhs cs))) (m_SH, I, L)) : C 123 [.long (lN (pkB 256 cs)), .int (nI cs.length)] (m_SH, I, L) K := by
  have hc : ∀ x ∈ cs, x < 256 := fun x hx => by have := (hcs.2 x hx).2; omega
  refine e_X9_hashOf hC (Nat.le_of_ble_eq_true rfl) ?_
  intro C' hC' P hP
  have loop : ∀ (r pre : List Nat), cs = pre ++ r → P (7, [some (.long (lN (pkB 256 cs))), none, some (.int (nI cs.length)), some (.int (jhs pre)), some (.int (nI r.length - 1))], [], (m_SH, I, L), 0, 0) := by
    intro r
    induction r with
    | nil =>
      intro pre e
      repeat (refine hP _ ?_; conv => whnf)
      refine ⟨fun _ => ?_, fun z => absurd (show nI ([] : List Nat).length - 1 < 0 by decide) z⟩
      repeat (refine hP _ ?_; conv => whnf)
      rw [e, List.append_nil] at hK
      exact hK
    | cons c r ih =>
      intro pre e
      have hl8 := hcs.1
      have hr8 : r.length < 8 := by
        rw [e, List.length_append, List.length_cons] at hl8
        omega
      have e1 : nI (c :: r).length - 1 = nI r.length := nI_pred _
      rw [e1]
      have ho := oct_at (pre := pre) (r := r) (c := c) (by rw [← e]; exact hl8) (by rw [← e]; exact hc)
      rw [← e] at ho
      have e2 := ih (pre ++ [c]) (by simp [e])
      rw [jhs_snoc, Int32.sub_eq_add_neg] at e2
      iterate 2 (refine hP _ ?_; conv => whnf)
      refine ⟨fun z => absurd z (nI_pos (by omega)), fun _ => ?_⟩
      iterate 15 (refine hP _ ?_; conv => whnf)
      rw [ho]
      exact e2
  iterate 6 (refine hP _ ?_; conv => whnf)
  exact loop cs [] rfl
/-! ===== is a label there already ===== -/
theorem any_at {α : Type} {l : List α} {p : α → Bool} : (∀ (j : Nat) (x : α), l[j]? = some x → p x = false) → l.any p = false := by
  intro h
  cases hb : l.any p with
  | false => rfl
  | true =>
    obtain ⟨x, hx, hp⟩ := List.any_eq_true.mp hb
    obtain ⟨j, hj⟩ := List.getElem?_of_mem hx
    rw [h j x hj] at hp
    cases hp
theorem any_of {α : Type} {l : List α} {p : α → Bool} {j : Nat} {x : α} (h : l[j]? = some x) (hp : p x = true) : l.any p = true := List.any_eq_true.mpr ⟨x, List.mem_of_getElem? h, hp⟩
theorem h_isOther {XL : Nat} {XS : Nat → Int32} {n : Nat} {C : mC} {I : Nat → Nat → Int32} {L : Nat → Nat → Int64} {K : mK} {tx : List Nat} {m : Nat} {I0 : Nat → Nat → Int32} {L0 : Nat → Nat → Int64} {p : Nat} {s : JSt} {x : Int32} {t : Int64} {z : Int32} {cs : List Nat} (hC : m_Ge XL XS (n + 1) C) (h : RH tx m I0 L0 true p (.ok s) I L) (ht : s.srt = 1 → t = lN (pkB 256 cs) ∧ z = nI cs.length ∧ NmOk cs) (hK : K (some (.int (if jdup s x cs = true then 0 else 1))) (m_SH, I, L)) : C 122 [.ref 30, .int x, .long t, .int z] (m_SH, I, L) K := by
  obtain ⟨-, hsl, -, ⟨l1, l2, l3⟩, -⟩ := h.2.2
  obtain ⟨-, -, h17, h012, -⟩ := hsl rfl
  have hel : ∀ j, (hj : j < s.lbs.length) → s.lbs[j]? = some s.lbs[j] := fun j hj => List.getElem?_eq_getElem hj
  refine e_X9_isOther hC (Nat.le_of_ble_eq_true rfl) ?_
  intro C' hC' P hP
  have pos : ∀ i, (hi : i < s.lbs.length) → (if s.srt = 1 then s.lbs[i].2.2 = cs else s.lbs[i].2.1 = x) → jdup s x cs = true := by
    intro i hi hp
    unfold jdup
    by_cases g : s.srt = 1
    · rw [if_pos g] at hp ⊢
      exact any_of (hel i hi) (by simpa using hp)
    · rw [if_neg g] at hp ⊢
      exact any_of (hel i hi) (by simpa using hp)
  have loop : ∀ (k i : Nat), i + k = s.lbs.length → (∀ j, (hj : j < s.lbs.length) → j < i → ¬ (if s.srt = 1 then s.lbs[j].2.2 = cs else s.lbs[j].2.1 = x)) → P (3, [some (.ref 30), some (.int x), some (.long t), none, some (.int z), some (.int (nI i))], [], (m_SH, I, L), 0, 0) := by
    intro k
    induction k with
    | zero =>
      intro i hi hno
      repeat (refine hP _ ?_; conv => whnf)
      rw [l1]
      refine ⟨fun w => absurd w (nI_nlt (by omega) (by omega)), fun _ => ?_⟩
      repeat (refine hP _ ?_; conv => whnf)
      have hd : jdup s x cs = false := by
        unfold jdup
        by_cases g : s.srt = 1
        · rw [if_pos g]
          refine any_at (fun j y hy => ?_)
          have hj : j < s.lbs.length := by
            by_cases q : j < s.lbs.length
            · exact q
            · rw [List.getElem?_eq_none (by omega)] at hy; cases hy
          have := hno j hj (by omega)
          rw [if_pos g] at this
          rw [hel j hj] at hy
          cases hy
          simpa using this
        · rw [if_neg g]
          refine any_at (fun j y hy => ?_)
          have hj : j < s.lbs.length := by
            by_cases q : j < s.lbs.length
            · exact q
            · rw [List.getElem?_eq_none (by omega)] at hy; cases hy
          have := hno j hj (by omega)
          rw [if_neg g] at this
          rw [hel j hj] at hy
          cases hy
          simpa using this
      rw [hd] at hK
      exact ⟨rfl, hK⟩
    | succ k ih =>
      intro i hi hno
      have hil : i < s.lbs.length := by omega
      obtain ⟨y1, y2, y3⟩ := l3 i _ (hel i hil)
      have nxt : ¬ (if s.srt = 1 then s.lbs[i].2.2 = cs else s.lbs[i].2.1 = x) → P (60, [some (.ref 30), some (.int x), some (.long t), none, some (.int z), some (.int (nI i))], [], (m_SH, I, L), 0, 0) := by
        intro hp
        have e := ih (i + 1) (by omega) (fun j hj hji => by
          by_cases q : j = i
          · subst q; exact hp
          · exact hno j hj (by omega))
        rw [← nI_1] at e
        iterate 2 (refine hP _ ?_; conv => whnf)
        exact e
      have yes : (if s.srt = 1 then s.lbs[i].2.2 = cs else s.lbs[i].2.1 = x) → P (58, [some (.ref 30), some (.int x), some (.long t), none, some (.int z), some (.int (nI i))], [], (m_SH, I, L), 0, 0) := by
        intro hp
        rw [pos i hil hp] at hK
        repeat (refine hP _ ?_; conv => whnf)
        exact ⟨rfl, hK⟩
      repeat (refine hP _ ?_; conv => whnf)
      rw [l1]
      refine ⟨fun _ => ?_, fun w => absurd (nI_lt (by omega) (by omega)) w⟩
      repeat (refine hP _ ?_; conv => whnf)
      rw [h17]
      refine ⟨fun w => ?_, fun w => ?_⟩
      · obtain ⟨t1, t2, t3⟩ := ht w
        obtain ⟨u1, u2, u3⟩ := y3 w
        rw [if_pos w] at nxt yes
        repeat (refine hP _ ?_; conv => whnf)
        refine ⟨vp_in_nI (by omega) (by omega), ?_⟩
        repeat (refine hP _ ?_; conv => whnf)
        rw [nI_clamp (by omega), lg_cmp_eq, u1, t1]
        have hnj := nm_inj8 u3 t3
        refine ⟨fun q => ?_, fun q => ?_⟩
        · have heq := hnj.mp q
          repeat (refine hP _ ?_; conv => whnf)
          refine ⟨vp_in_nI (by omega) (by omega), ?_⟩
          rw [nI_clamp (by omega), u2, t2, heq]
          iterate 2 (refine hP _ ?_; conv => whnf)
          refine ⟨fun _ => ?_, fun q2 => absurd rfl q2⟩
          iterate 1 (refine hP _ ?_; conv => whnf)
          rw [t1, t2] at yes
          exact yes heq
        · rw [t1] at nxt
          exact nxt (fun u => q (hnj.mpr u))
      · rw [if_neg w] at nxt yes
        repeat (refine hP _ ?_; conv => whnf)
        refine ⟨vp_in_nI (by omega) (by omega), ?_⟩
        rw [nI_clamp (by omega), y2]
        iterate 2 (refine hP _ ?_; conv => whnf)
        exact ⟨fun q => yes q, fun q => nxt q⟩
  iterate 2 (refine hP _ ?_; conv => whnf)
  exact loop s.lbs.length 0 (by omega) (fun j _ hj => absurd hj (by omega))
