/-! ===== the arm at which a RUN begins ===== -/
theorem srch_pos {f : Nat → Bool} : ∀ (c i : Nat), i + c ≤ 40 → ¬ srch f c i < 0 → ∃ j, j < c ∧ srch f c i = nI (i + j) ∧ f (i + j) = true ∧ ∀ k, k < j → f (i + k) = false
  | 0, i, _, h => by
    simp only [srch] at h
    exact absurd (by decide) h
  | c + 1, i, hi, h => by
    simp only [srch] at h ⊢
    by_cases g : f i = true
    · rw [if_pos g]
      exact ⟨0, by omega, rfl, g, fun k hk => absurd hk (Nat.not_lt_zero _)⟩
    · rw [if_neg g] at h ⊢
      obtain ⟨j, j1, j2, j3, j4⟩ := srch_pos c (i + 1) (by omega) h
      refine ⟨j + 1, by omega, by rw [j2, show i + 1 + j = i + (j + 1) by omega], by rw [show i + (j + 1) = i + 1 + j by omega]; exact j3, fun k hk => ?_⟩
      cases k with
      | zero => rw [Nat.add_zero]; simpa using g
      | succ k => rw [show i + (k + 1) = i + 1 + k by omega]; exact j4 k (by omega)
def fArm (p : Nat × Int32 × List Nat → Bool) : List (Nat × Int32 × List Nat) → Int32 → Int32
  | [], d => d
  | y :: r, d => if p y = true then nI y.1 else fArm p r d
theorem fArm_no {p : Nat × Int32 × List Nat → Bool} {d : Int32} : ∀ (l : List (Nat × Int32 × List Nat)), (∀ (j : Nat) y, l[j]? = some y → p y = false) → fArm p l d = d
  | [], _ => rfl
  | y :: r, h => by
    unfold fArm
    rw [if_neg (by rw [h 0 y rfl]; decide)]
    exact fArm_no r (fun j z hz => h (j + 1) z (by simpa using hz))
theorem fArm_at {p : Nat × Int32 × List Nat → Bool} {d : Int32} : ∀ (l : List (Nat × Int32 × List Nat)) (i : Nat) y, l[i]? = some y → p y = true → (∀ (j : Nat) z, j < i → l[j]? = some z → p z = false) → fArm p l d = nI y.1
  | [], i, y, h, _, _ => by cases h
  | x :: r, 0, y, h, hp, _ => by
    cases h
    unfold fArm
    rw [if_pos hp]
  | x :: r, i + 1, y, h, hp, hno => by
    unfold fArm
    rw [if_neg (by rw [hno 0 x (by omega) rfl]; decide)]
    exact fArm_at r i y (by simpa using h) hp (fun j z hj hz => hno (j + 1) z (by omega) (by simpa using hz))
/-- the label that is looked for -/
def pLb (s : JSt) (tx : List Nat) (v : Int32) (y : Nat × Int32 × List Nat) : Bool := if s.srt = 1 then y.2.2 == tx else y.2.1 == v
def jArm (s : JSt) (tx : List Nat) (v : Int32) : Int32 := fArm (pLb s tx v) s.lbs s.dfl
/-- arms of labels and of the default are there -/
def AR (s : JSt) : Prop := (∀ y ∈ s.lbs, y.1 < s.ars.length) ∧ (s.dfl = -1 ∨ ∃ d, d < s.ars.length ∧ s.dfl = nI d) ∧ s.ars.length ≤ 20
theorem jArm_cs {s : JSt} {tx : List Nat} {v : Int32} (h : AR s) : jArm s tx v = -1 ∨ ∃ a, a < s.ars.length ∧ jArm s tx v = nI a := by
  have : ∀ l, (∀ y ∈ l, y.1 < s.ars.length) → fArm (pLb s tx v) l s.dfl = -1 ∨ ∃ a, a < s.ars.length ∧ fArm (pLb s tx v) l s.dfl = nI a := by
    intro l
    induction l with
    | nil =>
      intro _
      rcases h.2.1 with h | h
      · exact Or.inl h
      · exact Or.inr h
    | cons y r ih =>
      intro hy
      unfold fArm
      by_cases g : pLb s tx v y = true
      · rw [if_pos g]
        exact Or.inr ⟨y.1, hy y List.mem_cons_self, rfl⟩
      · rw [if_neg g]
        exact ih (fun z hz => hy z (List.mem_cons_of_mem _ hz))
  exact this s.lbs h.1
theorem AR_lab {tx : List Nat} {w : Bool} {s s' : JSt} (hl : 0 < s.ars.length) (h : AR s) (e : jlab tx w (.ok s) = .ok s') : AR s' := by
  obtain ⟨x, cs, k, e1⟩ := jlab_ok e
  rw [e1]
  refine ⟨fun y hy => ?_, h.2.1, h.2.2⟩
  have hy : y ∈ s.lbs ++ [(s.ars.length - 1, x, cs)] := hy
  show y.1 < s.ars.length
  rcases List.mem_append.mp hy with hy | hy
  · exact h.1 y hy
  · rw [List.mem_singleton.mp hy]
    show s.ars.length - 1 < s.ars.length
    omega
theorem AR_llp {tx : List Nat} {w : Bool} : ∀ (i : Nat) (s s' : JSt), 0 < s.ars.length → AR s → jllp tx w i (.ok s) = .ok s' → AR s'
  | 0, s, s', _, hA, h => by cases h; exact hA
  | i + 1, s, s', hl, hA, h => by
    unfold jllp at h
    split at h
    · cases hz : jlab tx w (jadv (.ok s)) with
      | error e => rw [hz, jllp_er] at h; cases h
      | ok q =>
        rw [hz] at h
        have hq : 0 < q.ars.length := by
          obtain ⟨x, cs, k, e1⟩ := jlab_ok (s := s.wk (s.k + 1)) hz
          rw [e1]
          exact hl
        exact AR_llp i q s' hq (AR_lab (s := s.wk (s.k + 1)) hl hA hz) h
    · cases h; exact hA
theorem AR_lbs {tx : List Nat} {w : Bool} {s s' : JSt} (hl : 0 < s.ars.length) (hA : AR s) (h : jlbs tx w (.ok s) = .ok s') : AR s' := by
  unfold jlbs at h
  cases hz : jlab tx w (.ok s) with
  | error e => rw [hz, jllp_er] at h; cases h
  | ok q =>
    rw [hz] at h
    have hq : 0 < q.ars.length := by
      obtain ⟨x, cs, k, e1⟩ := jlab_ok hz
      rw [e1]
      exact hl
    exact AR_llp _ q s' hq (AR_lab hl hA hz) h
theorem AR_arm {tx : List Nat} {w : Bool} {s s' : JSt} (hA : AR s) (h : jarm tx w (.ok s) = .ok s') : AR s' := by
  have hj : jarm tx w (.ok s) = if (tk tx s.k).1 = 7 ∧ ¬ s.dfl < 0 then jfal tx 3 (.ok s)
    else if 20 ≤ s.ars.length then jfal tx 12 (.ok s)
    else if (tk tx s.k).1 = 7 then jam2 tx (((s.wars (s.ars ++ [s.cd.length])).wdfl (nI s.ars.length)).wk (s.k + 1))
    else jb (jlbs tx w (.ok ((s.wars (s.ars ++ [s.cd.length])).wk (s.k + 1)))) (jam2 tx) := rfl
  rw [hj] at h
  have hlen : (s.ars ++ [s.cd.length]).length = s.ars.length + 1 := by rw [List.length_append]; rfl
  have am : ∀ q : JSt, AR q → jam2 tx q = .ok s' → AR s' := by
    intro q hq e
    obtain ⟨-, o, hu⟩ := jam2_ok e
    have e6 : s'.dfl = q.dfl := by unfold JSt.dfl; rw [hu]; rfl
    have e8 : s'.ars = q.ars := by unfold JSt.ars; rw [hu]; rfl
    have e9 : s'.lbs = q.lbs := by unfold JSt.lbs; rw [hu]; rfl
    unfold AR
    rw [e6, e8, e9]
    exact hq
  by_cases c1 : (tk tx s.k).1 = 7 ∧ ¬ s.dfl < 0
  · rw [if_pos c1] at h; cases h
  rw [if_neg c1] at h
  by_cases c2 : 20 ≤ s.ars.length
  · rw [if_pos c2] at h; cases h
  rw [if_neg c2] at h
  by_cases c3 : (tk tx s.k).1 = 7
  · rw [if_pos c3] at h
    refine am (((s.wars (s.ars ++ [s.cd.length])).wdfl (nI s.ars.length)).wk (s.k + 1)) ⟨fun y hy => ?_, Or.inr ⟨s.ars.length, ?_, rfl⟩, ?_⟩ h
    · have := hA.1 y hy
      show y.1 < (s.ars ++ [s.cd.length]).length
      omega
    · show s.ars.length < (s.ars ++ [s.cd.length]).length
      omega
    · show (s.ars ++ [s.cd.length]).length ≤ 20
      omega
  · rw [if_neg c3] at h
    cases hz : jlbs tx w (.ok ((s.wars (s.ars ++ [s.cd.length])).wk (s.k + 1))) with
    | error e => rw [hz] at h; cases h
    | ok q =>
      rw [hz] at h
      refine am q (AR_lbs (s := (s.wars (s.ars ++ [s.cd.length])).wk (s.k + 1)) ?_ ⟨fun y hy => ?_, ?_, ?_⟩ hz) h
      · show 0 < (s.ars ++ [s.cd.length]).length
        omega
      · have := hA.1 y hy
        show y.1 < (s.ars ++ [s.cd.length]).length
        omega
      · rcases hA.2.1 with t | ⟨d, d1, d2⟩
        · exact Or.inl t
        · exact Or.inr ⟨d, by show d < (s.ars ++ [s.cd.length]).length; omega, d2⟩
      · show (s.ars ++ [s.cd.length]).length ≤ 20
        omega
theorem AR_arms {tx : List Nat} {w : Bool} : ∀ (i : Nat) (s s' : JSt), AR s → jarms tx w i (.ok s) = .ok s' → AR s'
  | 0, s, s', h, e => by cases e; exact h
  | i + 1, s, s', h, e => by
    unfold jarms at e
    split at e
    · cases hz : jarm tx w (.ok s) with
      | error er => rw [hz, jarms_er] at e; cases e
      | ok q =>
        rw [hz] at e
        exact AR_arms i q s' (AR_arm h hz) e
    · cases e; exact h
theorem AR_all {tx : List Nat} {w : Bool} {v t : Int32} {s : JSt} (h : jall tx w (js0 v t) = .ok s) : AR s := by
  unfold jall at h
  obtain ⟨q, h1, h2⟩ := jlst_ok h
  rw [h2]
  cases hz : jens tx 5 (.ok (js0 v t)) with
  | error er =>
    rw [hz] at h1
    have : jsel tx (.error er) = .error er := rfl
    rw [this, jarms_er] at h1
    cases h1
  | ok a =>
    rw [hz] at h1
    obtain ⟨⟨e, k, ha⟩, -⟩ := jens_inv 5 hz List.nodup_nil
    cases hy : jsel tx (.ok a) with
    | error er => rw [hy, jarms_er] at h1; cases h1
    | ok b =>
      rw [hy] at h1
      obtain ⟨v1, x, y, z, k2, hb⟩ := jsel_ok hy
      have hAb : AR b := by
        rw [hb, ha]
        exact ⟨fun y hy => (by cases hy), Or.inl rfl, Nat.zero_le _⟩
      exact AR_arms 21 b q hAb h1
/-! the class -/
theorem c_armFor {XL : Nat} {XS : Nat → Int32} {n : Nat} {C : mC} {I : Nat → Nat → Int32} {L : Nat → Nat → Int64} {K : mK} {s : JSt} {tx : List Nat} {v : Int32} {a : Int64} (hC : m_Ge XL XS (n + 2) C) (hU : CU s.u I L) (hA : ∀ y ∈ s.lbs, y.1 < 20) (ha : ∀ (j : Nat) y, s.lbs[j]? = some y → ((L 12 j == a) = true ↔ pLb s tx v y = true)) (hK : K (some (.int (jArm s tx v))) (m_SH, I, L)) : C 83 [.ref 8, .long a] (m_SH, I, L) K := by
  obtain ⟨⟨f1, f2, f3, f4, f5, f6⟩, -, ⟨l1, l2, l3, l4⟩, -⟩ := hU
  have l1 : I 8 5 = nI s.lbs.length := l1
  have l2 : s.lbs.length ≤ 32 := l2
  have f5 : I 8 7 = s.dfl := f5
  refine e_X7_armFor hC (Nat.le_of_ble_eq_true rfl) ?_
  intro C' hC' P hP
  repeat (refine hP _ ?_; conv => whnf)
  refine c_labelWith (n := n) hC' l1 l2 ?_
  repeat (refine hP _ ?_; conv => whnf)
  refine ⟨fun z => ?_, fun z => ?_⟩
  · repeat (refine hP _ ?_; conv => whnf)
    rw [f5]
    have := (srch_neg s.lbs.length 0 (by omega)).mp z
    have hno : jArm s tx v = s.dfl := fArm_no s.lbs (fun j y hy => by
      have hj : j < s.lbs.length := by
        by_cases q : j < s.lbs.length
        · exact q
        · rw [List.getElem?_eq_none (by omega)] at hy; cases hy
      have h0 := this j hj
      rw [Nat.zero_add] at h0
      cases hb : pLb s tx v y with
      | false => rfl
      | true =>
        have := (ha j y hy).mpr hb
        rw [h0] at this
        cases this)
    rw [hno] at hK
    exact hK
  · obtain ⟨j, j1, j2, j3, j4⟩ := srch_pos s.lbs.length 0 (by omega) z
    rw [Nat.zero_add] at j2 j3
    have hy : s.lbs[j]? = some s.lbs[j] := List.getElem?_eq_getElem j1
    have hat : jArm s tx v = nI s.lbs[j].1 := fArm_at s.lbs j _ hy ((ha j _ hy).mp j3) (fun i z hi hz => by
      have h0 := j4 i hi
      rw [Nat.zero_add] at h0
      cases hb : pLb s tx v z with
      | false => rfl
      | true =>
        have := (ha i z hz).mpr hb
        rw [h0] at this
        cases this)
    rw [hat] at hK
    have hl3 : I 10 j = nI s.lbs[j].1 := (l3 j _ hy).1
    rw [j2]
    repeat (refine hP _ ?_; conv => whnf)
    refine ⟨vp_in_nI (by omega) (by omega), ?_⟩
    rw [nI_clamp (by omega), hl3]
    repeat (refine hP _ ?_; conv => whnf)
    exact hK
theorem c_startOf {XL : Nat} {XS : Nat → Int32} {n : Nat} {C : mC} {I : Nat → Nat → Int32} {L : Nat → Nat → Int64} {K : mK} {a c : Nat} (hC : m_Ge XL XS (n + 1) C) (ha : a < 20) (h9 : I 9 a = nI c) (hK : K (some (.int (nI c))) (m_SH, I, L)) : C 78 [.ref 8, .int (nI a)] (m_SH, I, L) K := by
  refine e_X7_startOf hC (Nat.le_of_ble_eq_true rfl) ?_
  intro C' hC' P hP
  repeat (refine hP _ ?_; conv => whnf)
  refine ⟨fun z => absurd z (nI_pos (by omega)), fun _ => ?_⟩
  repeat (refine hP _ ?_; conv => whnf)
  refine ⟨fun _ => ?_, fun z => absurd (show nI a < nI 20 from nI_lt (by omega) (by omega)) z⟩
  repeat (refine hP _ ?_; conv => whnf)
  refine ⟨vp_in_nI (by omega) (by omega), ?_⟩
  rw [nI_clamp (by omega), h9]
  repeat (refine hP _ ?_; conv => whnf)
  exact hK
theorem lN_inj64 {a b : Nat} (ha : a < 2 ^ 64) (hb : b < 2 ^ 64) (h : lN a = lN b) : a = b := by
  have this : (lN a).toBitVec.toNat = (lN b).toBitVec.toNat := congrArg (fun x : Int64 => x.toBitVec.toNat) h
  rw [wb_tn ha, wb_tn hb] at this
  exact this
theorem pk_64 {cs : List Nat} (hl : cs.length ≤ 8) (hc : ∀ c ∈ cs, c < 256) : pkB 256 cs < 2 ^ 64 := by
  have h1 := pkB_lt (B := 256) cs hc
  have h2 : 256 ^ cs.length ≤ 256 ^ 8 := Nat.pow_le_pow_right (by decide) hl
  have h3 : (256 : Nat) ^ 8 = 2 ^ 64 := by decide
  omega
theorem nt_m1 {cs : List Nat} (h : NmOk cs) : ¬ (-1 : Int64) = lN (pkB 256 cs) := by
  intro e
  have e2 : lN (2 ^ 64 - 1) = lN (pkB 256 cs) := by rw [← e]; rfl
  have e3 := lN_inj64 (by decide) (pk_64 h.1 (fun c hc => by have := (h.2 c hc).2; omega)) e2
  have : pkB 256 cs % 256 < 128 := by
    rcases List.eq_nil_or_concat cs with h0 | ⟨r, c, h0⟩
    · subst h0
      decide
    · subst h0
      rw [List.concat_eq_append, pkB_snoc]
      have := (h.2 c (by simp)).2
      omega
  rw [← e3] at this
  exact absurd this (by decide)
theorem c_whole {XL : Nat} {XS : Nat → Int32} {n : Nat} {C : mC} {I : Nat → Nat → Int32} {L : Nat → Nat → Int64} {K : mK} {tx : List Nat} (hC : m_Ge XL XS (n + 3) C) (ht : TxOk tx) (h : TxC tx I) (hK : ∀ a, (∀ cs, NmOk cs → (a = lN (pkB 256 cs) ↔ tx = cs)) → K (some (.long a)) (m_SH, I, L)) : C 41 [.ref 1] (m_SH, I, L) K := by
  have hl := ht.1
  have nt : (∀ cs, NmOk cs → ¬ tx = cs) → K (some (.long (-1))) (m_SH, I, L) := fun hn => hK _ (fun cs hcs => ⟨fun e => absurd e (nt_m1 hcs), fun e => absurd e (hn cs hcs)⟩)
  refine e_X2_whole hC (Nat.le_of_ble_eq_true rfl) ?_
  intro C' hC' P hP
  repeat (refine hP _ ?_; conv => whnf)
  rw [h.1]
  refine ⟨fun z => ?_, fun z => ?_⟩
  · have h8 := (nI_ltI (a := 8) (b := tx.length) (by omega) (by omega)).mp z
    repeat (refine hP _ ?_; conv => whnf)
    exact nt (fun cs hcs e => by rw [e] at h8; have := hcs.1; omega)
  · have h8 : tx.length ≤ 8 := by
      by_cases q : tx.length ≤ 8
      · exact q
      · exact absurd (show nI 8 < nI tx.length from nI_lt (by omega) (by omega)) z
    have loop : ∀ (d i : Nat), i + d = tx.length → (∀ j, j < i → ¬ tx.getD j 0 = 0) → P (15, [some (.ref 1), some (.int (nI i))], [], (m_SH, I, L), 0, 0) := by
      intro d
      induction d with
      | zero =>
        intro i hi hno
        repeat (refine hP _ ?_; conv => whnf)
        rw [h.1]
        refine ⟨fun w => absurd w (nI_nlt (by omega) (by omega)), fun _ => ?_⟩
        repeat (refine hP _ ?_; conv => whnf)
        rw [show m_fv I L 2 1 1 none = .int (nI tx.length) from congrArg Value.int h.1]
        refine c_packed (i0 := 0) (e0 := tx.length) (n := n) hC' ht h (Nat.zero_le _) (by omega) ?_
        rw [pkF_0 ht (Nat.zero_le _) (Nat.le_refl _) (by omega)]
        have hs : slice tx 0 tx.length = tx := by unfold slice; simp
        rw [hs]
        repeat (refine hP _ ?_; conv => whnf)
        refine hK _ (fun cs hcs => ⟨fun e => ?_, fun e => by rw [e]⟩)
        have hpos : ∀ c ∈ tx, 0 < c ∧ c < 256 := fun c hc => by
          obtain ⟨j, hj⟩ := List.getElem?_of_mem hc
          have hjl : j < tx.length := by
            by_cases q : j < tx.length
            · exact q
            · rw [List.getElem?_eq_none (by omega)] at hj; cases hj
          have h0 := hno j (by omega)
          rw [List.getD_eq_getElem?_getD, hj] at h0
          have h0 : ¬ c = 0 := h0
          exact ⟨by omega, ht.2 c hc⟩
        have hcs2 : ∀ c ∈ cs, 0 < c ∧ c < 256 := fun c hc => by have := hcs.2 c hc; omega
        exact pkB_inj tx cs hpos hcs2 (lN_inj64 (pk_64 h8 ht.2) (pk_64 hcs.1 (fun c hc => (hcs2 c hc).2)) e)
      | succ d ih =>
        intro i hi hno
        repeat (refine hP _ ?_; conv => whnf)
        rw [h.1]
        refine ⟨fun _ => ?_, fun w => absurd (nI_lt (by omega) (by omega)) w⟩
        repeat (refine hP _ ?_; conv => whnf)
        refine c_at' (j := i) (n := n + 1) hC' ht h (by omega) ?_
        have htc : toc tx i = nI (tx.getD i 0) := by unfold toc; rw [if_pos (by omega)]
        have hmem : tx.getD i 0 ∈ tx := by
          rw [List.getD_eq_getElem?_getD, List.getElem?_eq_getElem (by omega)]
          exact List.getElem_mem _
        have hb := ht.2 _ hmem
        have e0 := nI_eq (a := tx.getD i 0) (b := 0) (by omega) (by omega)
        rw [htc]
        repeat (refine hP _ ?_; conv => whnf)
        refine ⟨fun w => ?_, fun w => ?_⟩
        · repeat (refine hP _ ?_; conv => whnf)
          refine nt (fun cs hcs e => ?_)
          rw [e] at hmem e0
          have h1 := (hcs.2 _ hmem).1
          have h2 := e0.mp (by rw [← e]; exact w)
          omega
        · have e := ih (i + 1) (by omega) (fun j hj => by
            by_cases q : j = i
            · subst q
              exact fun t => w (e0.mpr t)
            · exact hno j (by omega))
          rw [← nI_1] at e
          iterate 2 (refine hP _ ?_; conv => whnf)
          exact e
    iterate 2 (refine hP _ ?_; conv => whnf)
    exact loop tx.length 0 (by omega) (fun j hj => absurd hj (Nat.not_lt_zero _))
/-! the reference -/
theorem r_isTextAt {XL : Nat} {XS : Nat → Int32} {n : Nat} {C : mC} {I : Nat → Nat → Int32} {L : Nat → Nat → Int64} {K : mK} {tx cs : List Nat} {k : Nat} (hC : m_Ge XL XS (n + 2) C) (ht : TxOk tx) (h : TxM tx I) (hk : k < 32) (h39 : L 39 k = lN (pkB 256 cs)) (h40 : I 40 k = nI cs.length) (hcs : NmOk cs) (hK : K (some (.int (if cs = tx then 1 else 0))) (m_SH, I, L)) : C 150 [.ref 30, .int (nI k)] (m_SH, I, L) K := by
  have hl := ht.1
  have hc8 := hcs.1
  refine e_X9_isTextAt hC (Nat.le_of_ble_eq_true rfl) ?_
  intro C' hC' P hP
  have ret : ∀ (v : Int32) (l3 : Option Value), v = (if cs = tx then 1 else 0) → P (76, [some (.ref 30), some (.int (nI k)), some (.int v), l3], [], (m_SH, I, L), 0, 0) := by
    intro v l3 hv
    subst hv
    by_cases g : cs = tx
    · rw [if_pos g] at hK ⊢
      repeat (refine hP _ ?_; conv => whnf)
      exact ⟨rfl, hK⟩
    · rw [if_neg g] at hK ⊢
      repeat (refine hP _ ?_; conv => whnf)
      exact ⟨rfl, hK⟩
  have ek := nI_eq (a := cs.length) (b := tx.length) (by omega) (by omega)
  repeat (refine hP _ ?_; conv => whnf)
  refine ⟨vp_in_nI (by omega) (by omega), ?_⟩
  rw [nI_clamp (by omega), h40]
  repeat (refine hP _ ?_; conv => whnf)
  rw [h.1]
  refine ⟨fun z => ?_, fun z => ?_⟩
  · have hlen := ek.mp z
    have loop : ∀ (r pre t2 : List Nat), cs = pre ++ r → tx = pre ++ t2 → P (21, [some (.ref 30), some (.int (nI k)), some (.int 1), some (.int (nI pre.length))], [], (m_SH, I, L), 0, 0) := by
      intro r
      induction r with
      | nil =>
        intro pre t2 e1 e2
        have hcp : cs.length = pre.length := by rw [e1, List.append_nil]
        repeat (refine hP _ ?_; conv => whnf)
        rw [h.1]
        refine ⟨fun w => absurd w (nI_nlt (by omega) (by omega)), fun _ => ?_⟩
        refine ret 1 _ ?_
        rw [if_pos]
        have : t2 = [] := by
          have := congrArg List.length e2
          rw [List.length_append] at this
          exact List.length_eq_zero_iff.mp (by omega)
        rw [e1, e2, this]
      | cons c r ih =>
        intro pre t2 e1 e2
        have hcl : cs.length = pre.length + (r.length + 1) := by rw [e1, List.length_append]; rfl
        have htl : pre.length < tx.length := by omega
        have ho := oct_at (pre := pre) (r := r) (c := c) (by rw [← e1]; exact hc8) (by rw [← e1]; exact fun x hx => by have := (hcs.2 x hx).2; omega)
        rw [← e1] at ho
        cases t2 with
        | nil =>
          rw [e2, List.append_nil] at htl
          omega
        | cons d t2 =>
          have hd : tx.getD pre.length 0 = d := by
            rw [e2, List.getD_eq_getElem?_getD, List.getElem?_append_right (Nat.le_refl _)]
            simp
          have hdb : d < 256 := ht.2 d (by rw [e2]; simp)
          have hcb : c < 256 := by have := (hcs.2 c (by rw [e1]; simp)).2; omega
          have htc : toc tx pre.length = nI d := by unfold toc; rw [if_pos htl, hd]
          have ecd := nI_eq (a := d) (b := c) (by omega) (by omega)
          have e8 : nI tx.length - 1 - nI pre.length = nI r.length := by
            rw [show (1 : Int32) = nI 1 from rfl, sub_nI (by omega), sub_nI (by omega)]
            congr 1
            omega
          repeat (refine hP _ ?_; conv => whnf)
          rw [h.1]
          refine ⟨fun _ => ?_, fun w => absurd (nI_lt (by omega) (by omega)) w⟩
          repeat (refine hP _ ?_; conv => whnf)
          refine ⟨fun w => absurd w (by decide), fun _ => ?_⟩
          repeat (refine hP _ ?_; conv => whnf)
          refine r_octet' (j := pre.length) (n := n) hC' ht h (by omega) ?_
          rw [htc]
          repeat (refine hP _ ?_; conv => whnf)
          refine ⟨vp_in_nI (by omega) (by omega), ?_⟩
          rw [nI_clamp (by omega), h39]
          repeat (refine hP _ ?_; conv => whnf)
          rw [h.1, e8, ho]
          refine ⟨fun w => ?_, fun w => ?_⟩
          · have hdc := ecd.mp w
            subst hdc
            have e := ih (pre ++ [d]) t2 (by rw [e1]; simp) (by rw [e2]; simp)
            rw [List.length_append, List.length_singleton, ← nI_1] at e
            iterate 5 (refine hP _ ?_; conv => whnf)
            exact e
          · have hdc : ¬ d = c := fun t => w (ecd.mpr t)
            repeat (refine hP _ ?_; conv => whnf)
            refine ⟨fun _ => ?_, fun _ => ?_⟩
            · repeat (refine hP _ ?_; conv => whnf)
              refine ⟨fun _ => ?_, fun w => absurd rfl w⟩
              refine ret 0 _ ?_
              rw [if_neg]
              intro t
              rw [t] at e1
              rw [e1] at e2
              have := List.append_cancel_left e2
              simp at this
              exact hdc this.1.symm
            · refine ret 0 _ ?_
              rw [if_neg]
              intro t
              rw [t] at e1
              rw [e1] at e2
              have := List.append_cancel_left e2
              simp at this
              exact hdc this.1.symm
    iterate 5 (refine hP _ ?_; conv => whnf)
    exact loop cs [] tx rfl rfl
  · have hne : ¬ cs = tx := fun t => z (by rw [t])
    repeat (refine hP _ ?_; conv => whnf)
    refine ⟨fun _ => ?_, fun _ => ?_⟩
    · repeat (refine hP _ ?_; conv => whnf)
      refine ⟨fun _ => ?_, fun w => absurd rfl w⟩
      exact ret 0 _ (by rw [if_neg hne])
    · exact ret 0 _ (by rw [if_neg hne])
theorem r_armFor {XL : Nat} {XS : Nat → Int32} {n : Nat} {C : mC} {I : Nat → Nat → Int32} {L : Nat → Nat → Int64} {K : mK} {s : JSt} {tx : List Nat} {v : Int32} (hC : m_Ge XL XS (n + 3) C) (ht : TxOk tx) (hT : TxM tx I) (hU : RU true 0 s I L) (hK : K (some (.int (jArm s tx v))) (m_SH, I, L)) : C 149 [.ref 30, .int v] (m_SH, I, L) K := by
  obtain ⟨-, hsl, -, ⟨l1, l2, l3⟩, f27, -⟩ := hU
  obtain ⟨-, -, h17, -⟩ := hsl rfl
  refine e_X9_armFor hC (Nat.le_of_ble_eq_true rfl) ?_
  intro C' hC' P hP
  have loop : ∀ (d i : Nat), i + d = s.lbs.length → (∀ (j : Nat) y, j < i → s.lbs[j]? = some y → pLb s tx v y = false) → P (2, [some (.ref 30), some (.int v), some (.int (nI i))], [], (m_SH, I, L), 0, 0) := by
    intro d
    induction d with
    | zero =>
      intro i hi hno
      repeat (refine hP _ ?_; conv => whnf)
      rw [l1]
      refine ⟨fun w => absurd w (nI_nlt (by omega) (by omega)), fun _ => ?_⟩
      repeat (refine hP _ ?_; conv => whnf)
      rw [f27]
      have : jArm s tx v = s.dfl := fArm_no s.lbs (fun j y hy => hno j y (by
        by_cases q : j < s.lbs.length
        · omega
        · rw [List.getElem?_eq_none (by omega)] at hy; cases hy) hy)
      rw [this] at hK
      exact hK
    | succ d ih =>
      intro i hi hno
      have hil : i < s.lbs.length := by omega
      have hy : s.lbs[i]? = some s.lbs[i] := List.getElem?_eq_getElem hil
      obtain ⟨y1, y2, y3⟩ := l3 i _ hy
      have yes : pLb s tx v s.lbs[i] = true → P (39, [some (.ref 30), some (.int v), some (.int (nI i))], [], (m_SH, I, L), 0, 0) := by
        intro hp
        have : jArm s tx v = nI s.lbs[i].1 := fArm_at s.lbs i _ hy hp hno
        rw [this] at hK
        repeat (refine hP _ ?_; conv => whnf)
        refine ⟨vp_in_nI (by omega) (by omega), ?_⟩
        rw [nI_clamp (by omega), y1]
        repeat (refine hP _ ?_; conv => whnf)
        exact hK
      have nxt : pLb s tx v s.lbs[i] = false → P (46, [some (.ref 30), some (.int v), some (.int (nI i))], [], (m_SH, I, L), 0, 0) := by
        intro hp
        have e := ih (i + 1) (by omega) (fun j y hj hy2 => by
          by_cases q : j = i
          · subst q
            rw [hy] at hy2
            cases hy2
            exact hp
          · exact hno j y (by omega) hy2)
        rw [← nI_1] at e
        iterate 2 (refine hP _ ?_; conv => whnf)
        exact e
      unfold pLb at yes nxt
      repeat (refine hP _ ?_; conv => whnf)
      rw [l1]
      refine ⟨fun _ => ?_, fun w => absurd (nI_lt (by omega) (by omega)) w⟩
      repeat (refine hP _ ?_; conv => whnf)
      rw [h17]
      refine ⟨fun w => ?_, fun w => ?_⟩
      · have w : s.srt = 1 := w
        obtain ⟨u1, u2, u3⟩ := y3 w
        rw [if_pos w] at yes nxt
        repeat (refine hP _ ?_; conv => whnf)
        refine r_isTextAt (n := n) hC' ht hT (by omega) u1 u2 u3 ?_
        by_cases g : s.lbs[i].2.2 = tx
        · rw [if_pos g]
          repeat (refine hP _ ?_; conv => whnf)
          refine ⟨fun t => absurd t (by decide), fun _ => ?_⟩
          iterate 1 (refine hP _ ?_; conv => whnf)
          exact yes (by simpa using g)
        · rw [if_neg g]
          iterate 1 (refine hP _ ?_; conv => whnf)
          refine ⟨fun _ => nxt (by simpa using g), fun t => absurd rfl t⟩
      · have w : ¬ s.srt = 1 := w
        rw [if_neg w] at yes nxt
        repeat (refine hP _ ?_; conv => whnf)
        refine ⟨vp_in_nI (by omega) (by omega), ?_⟩
        rw [nI_clamp (by omega), y2]
        iterate 2 (refine hP _ ?_; conv => whnf)
        refine ⟨fun t => yes (by simpa using t), fun t => nxt (by simpa using t)⟩
  iterate 2 (refine hP _ ?_; conv => whnf)
  exact loop s.lbs.length 0 (by omega) (fun j y hj => absurd hj (Nat.not_lt_zero _))
