/-! ===== RUNS ===== -/
def jgo (cd : Cd) : Nat → Nat → Int32 → List Int32 → (Nat → Int32) → (Int32 × Int32) × List Int32 × (Nat → Int32)
  | 0, _, _, tr, nm => ((1, 0), tr, nm)
  | f + 1, pc, left, tr, nm => match cd[pc]? with
    | none => ((1, 0), tr, nm)
    | some x =>
      if x.1 = 0 then jgo cd f (pc + 1) left (tr ++ [x.2.1]) nm
      else if x.1 = 1 then jgo cd f (pc + 1) left (tr ++ [nm x.2.1.toNatClampNeg]) nm
      else if x.1 = 2 then jgo cd f (pc + 1) left tr (fun i => if i = x.2.1.toNatClampNeg then x.2.2 else nm i)
      else if x.1 = 3 then jgo cd f (if left &&& 1 = 1 then pc + 1 else x.2.1.toNatClampNeg) ((left.toUInt32 >>> (Int32.toUInt32 1 &&& Int32.toUInt32 31)).toInt32) tr nm
      else if x.1 = 4 then jgo cd f x.2.1.toNatClampNeg left tr nm
      else ((x.2.1, x.2.2), tr, nm)
/-- THE TRACE and what the names are, in rows a and b -/
def TrR (a b : Nat) (tr : List Int32) (nm : Nat → Int32) (I : Nat → Nat → Int32) : Prop := (∀ j, j < tr.length → I a j = tr.getD j 0) ∧ (∀ i, i < 20 → I b i = nm i)
theorem TrR.add {a b : Nat} {tr : List Int32} {nm : Nat → Int32} {I : Nat → Nat → Int32} {x : Int32} (hab : a ≠ b) (h : TrR a b tr nm I) : TrR a b (tr ++ [x]) nm (m_up I a tr.length x) := by
  refine ⟨fun j hj => ?_, fun i hi => ?_⟩
  · rw [List.length_append, List.length_singleton] at hj
    by_cases g : j = tr.length
    · subst g
      rw [m_upr, if_pos rfl, if_pos rfl, List.getD_eq_getElem?_getD, List.getElem?_append_right (Nat.le_refl _)]
      simp
    · rw [m_upr, if_pos rfl, if_neg g, h.1 j (by omega), List.getD_eq_getElem?_getD, List.getD_eq_getElem?_getD, List.getElem?_append_left (by omega)]
  · have : ¬ b = a := fun z => hab z.symm
    rw [m_upr, if_neg this]
    exact h.2 i hi
theorem TrR.set {a b k : Nat} {tr : List Int32} {nm : Nat → Int32} {I : Nat → Nat → Int32} {x : Int32} (hab : a ≠ b) (h : TrR a b tr nm I) : TrR a b tr (fun i => if i = k then x else nm i) (m_up I b k x) := by
  refine ⟨fun j hj => ?_, fun i hi => ?_⟩
  · rw [m_upr, if_neg hab]
    exact h.1 j hj
  · rw [m_upr, if_pos rfl]
    by_cases g : i = k
    · simp [g]
    · simp [g]; exact h.2 i hi
theorem cnt_drop {cd : Cd} {j : Nat} {x : Int32 × Int32 × Int32} (h : cd[j]? = some x) : cnt (cd.drop j) = cnt (cd.drop (j + 1)) + (if x.1 == 0 || x.1 == 1 then 1 else 0) := by
  have hl : j < cd.length := by
    by_cases q : j < cd.length
    · exact q
    · rw [List.getElem?_eq_none (by omega)] at h; cases h
  rw [List.drop_eq_getElem_cons hl]
  have e : cd[j] = x := by
    have := List.getElem?_eq_getElem hl
    rw [this] at h
    exact Option.some.inj h
  rw [e]
  unfold cnt
  rw [List.countP_cons]
theorem cnt_drop_le {cd : Cd} : ∀ (d j : Nat), cnt (cd.drop (j + d)) ≤ cnt (cd.drop j)
  | 0, j => Nat.le_refl _
  | d + 1, j => by
    have h1 := cnt_drop_le (cd := cd) d (j + 1)
    rw [show j + 1 + d = j + (d + 1) by omega] at h1
    have h2 : cnt (cd.drop (j + 1)) ≤ cnt (cd.drop j) := by
      cases h : cd[j]? with
      | none =>
        have hl : cd.length ≤ j := by
          by_cases q : cd.length ≤ j
          · exact q
          · rw [List.getElem?_eq_getElem (by omega)] at h; cases h
        rw [List.drop_of_length_le (by omega), List.drop_of_length_le hl]
        exact Nat.le_refl _
      | some x =>
        rw [cnt_drop h]
        omega
    omega
theorem c_addToTrace {XL : Nat} {XS : Nat → Int32} {n : Nat} {C : mC} {I : Nat → Nat → Int32} {L : Nat → Nat → Int64} {K : mK} {x : Int32} {c : Nat} (hC : m_Ge XL XS (n + 1) C) (hc : I 27 2 = nI c) (h : c < 120) (hK : K none (m_SH, m_up (m_up I 28 c x) 27 2 (nI (c + 1)), L)) : C 48 [.ref 27, .int x] (m_SH, I, L) K := by
  refine e_X3_addToTrace hC (Nat.le_of_ble_eq_true rfl) ?_
  intro C' hC' P hP
  repeat (refine hP _ ?_; conv => whnf)
  rw [hc]
  refine ⟨fun _ => ?_, fun z => absurd (show nI c < nI 120 from nI_lt (by omega) (by omega)) z⟩
  repeat (refine hP _ ?_; conv => whnf)
  rw [hc]
  refine ⟨vp_in_nI (by omega) (by omega), ?_⟩
  rw [nI_clamp (by omega)]
  repeat (refine hP _ ?_; conv => whnf)
  rw [show m_up I 28 c x 27 2 = nI c by simp [m_upr, hc], nI_1]
  exact hK
theorem c_isName {XL : Nat} {XS : Nat → Int32} {n : Nat} {C : mC} {I : Nat → Nat → Int32} {L : Nat → Nat → Int64} {K : mK} {i : Nat} (hC : m_Ge XL XS (n + 1) C) (h : i < 20) (hK : K (some (.int 1)) (m_SH, I, L)) : C 47 [.int (nI i)] (m_SH, I, L) K := by
  refine e_X3_isName hC (Nat.le_of_ble_eq_true rfl) ?_
  intro C' hC' P hP
  repeat (refine hP _ ?_; conv => whnf)
  refine ⟨fun z => absurd z (nI_pos (by omega)), fun _ => ?_⟩
  repeat (refine hP _ ?_; conv => whnf)
  refine ⟨fun _ => ?_, fun z => absurd (show nI i < nI 20 from nI_lt (by omega) (by omega)) z⟩
  repeat (refine hP _ ?_; conv => whnf)
  exact ⟨rfl, hK⟩
def S_go : Nat → Nat → Bool := fun p q => (p == 27 && (q == 2 || q == 3)) || p == 28 || p == 29
theorem c_go {XL : Nat} {XS : Nat → Int32} {n : Nat} {C : mC} {I : Nat → Nat → Int32} {L : Nat → Nat → Int64} {K : mK} {cd : Cd} {p0 : Nat} {flags : Int32} {nm : Nat → Int32} (hC : m_Ge XL XS (n + 2) C) (hl : I 13 3 = nI cd.length) (h260 : cd.length ≤ 260) (hcd : ∀ j, j < cd.length → cd[j]? = some (I 14 j, I 15 j, I 16 j)) (hok : ∀ j x, cd[j]? = some x → okS j cd.length x) (hp : p0 ≤ cd.length) (hcnt : cnt cd ≤ 120) (h2 : I 27 2 = 0) (h3 : I 27 3 = 0) (hT : TrR 28 29 [] nm I)
    (hK : ∀ I', TrR 28 29 (jgo cd 260 p0 flags [] nm).2.1 (jgo cd 260 p0 flags [] nm).2.2 I' → I' 27 2 = nI (jgo cd 260 p0 flags [] nm).2.1.length → (jgo cd 260 p0 flags [] nm).2.1.length ≤ 120 → I' 27 3 = (jgo cd 260 p0 flags [] nm).1.2 → Fr S_go I I' → K (some (.int (jgo cd 260 p0 flags [] nm).1.1)) (m_SH, I', L)) : C 46 [.ref 27, .ref 13, .int (nI p0), .int flags] (m_SH, I, L) K := by
  refine e_X3_go hC (Nat.le_of_ble_eq_true rfl) ?_
  intro C' hC' P hP
  have loop : ∀ (f c pc : Nat) (left : Int32) (tr : List Int32) (nm : Nat → Int32) (J : Nat → Nat → Int32) (l7 l8 l9 : Option Value), c + f = 260 → c ≤ pc → pc ≤ cd.length → tr.length + cnt (cd.drop pc) ≤ 120 → J 27 2 = nI tr.length → J 27 3 = 0 → TrR 28 29 tr nm J → Fr S_go I J →
      (∀ I', TrR 28 29 (jgo cd f pc left tr nm).2.1 (jgo cd f pc left tr nm).2.2 I' → I' 27 2 = nI (jgo cd f pc left tr nm).2.1.length → (jgo cd f pc left tr nm).2.1.length ≤ 120 → I' 27 3 = (jgo cd f pc left tr nm).1.2 → Fr S_go I I' → K (some (.int (jgo cd f pc left tr nm).1.1)) (m_SH, I', L)) →
      P (9, [some (.ref 27), some (.ref 13), some (.int (nI p0)), some (.int flags), some (.int (nI pc)), some (.int left), some (.int (nI c)), l7, l8, l9], [], (m_SH, J, L), 0, 0) := by
    intro f
    induction f with
    | zero =>
      intro c pc left tr nm J l7 l8 l9 hc hcp hpl hn j2 j3 hTr hF hk
      repeat (refine hP _ ?_; conv => whnf)
      refine ⟨fun z => absurd z (nI_nlt (a := c) (b := 260) (by omega) (by omega)), fun _ => ?_⟩
      repeat (refine hP _ ?_; conv => whnf)
      exact hk J hTr j2 (by show tr.length ≤ 120; omega) j3 hF
    | succ f ih =>
      intro c pc left tr nm J l7 l8 l9 hc hcp hpl hn j2 j3 hTr hF hk
      unfold jgo at hk
      have jl : J 13 3 = nI cd.length := by rw [hF 13 3 rfl]; exact hl
      repeat (refine hP _ ?_; conv => whnf)
      refine ⟨fun _ => ?_, fun z => absurd (show nI c < nI 260 from nI_lt (by omega) (by omega)) z⟩
      repeat (refine hP _ ?_; conv => whnf)
      refine ⟨fun z => absurd z (nI_pos (by omega)), fun _ => ?_⟩
      repeat (refine hP _ ?_; conv => whnf)
      rw [jl]
      refine ⟨fun z => ?_, fun z => ?_⟩
      rotate_left
      · have hge : ¬ pc < cd.length := fun t => z (nI_lt t (by omega))
        rw [List.getElem?_eq_none (by omega)] at hk
        repeat (refine hP _ ?_; conv => whnf)
        exact hk J hTr j2 (by show tr.length ≤ 120; omega) j3 hF
      · have hlt : pc < cd.length := (nI_ltI (a := pc) (b := cd.length) (by omega) (by omega)).mp z
        have hx : cd[pc]? = some (J 14 pc, J 15 pc, J 16 pc) := by rw [hF 14 pc rfl, hF 15 pc rfl, hF 16 pc rfl]; exact hcd pc hlt
        have hokx := hok pc _ hx
        have hcx := cnt_drop hx
        rw [hx] at hk
        unfold okS at hokx
        simp only at hk hokx hcx
        have back : ∀ (left' : Int32) (tr' : List Int32) (nm' : Nat → Int32) (J' : Nat → Nat → Int32) (pc' : Nat) (l7 l8 l9 : Option Value), pc < pc' → pc' ≤ cd.length → tr'.length + cnt (cd.drop pc') ≤ 120 → J' 27 2 = nI tr'.length → J' 27 3 = 0 → TrR 28 29 tr' nm' J' → Fr S_go I J' → (∀ I', TrR 28 29 (jgo cd f pc' left' tr' nm').2.1 (jgo cd f pc' left' tr' nm').2.2 I' → I' 27 2 = nI (jgo cd f pc' left' tr' nm').2.1.length → (jgo cd f pc' left' tr' nm').2.1.length ≤ 120 → I' 27 3 = (jgo cd f pc' left' tr' nm').1.2 → Fr S_go I I' → K (some (.int (jgo cd f pc' left' tr' nm').1.1)) (m_SH, I', L)) →
            P (197, [some (.ref 27), some (.ref 13), some (.int (nI p0)), some (.int flags), some (.int (nI pc')), some (.int left'), some (.int (nI c)), l7, l8, l9], [], (m_SH, J', L), 0, 0) := by
          intro left' tr' nm' J' pc' l7 l8 l9 h1 h2 h3 h4 h5 h6 h7 h8
          have e := ih (c + 1) pc' left' tr' nm' J' l7 l8 l9 (by omega) (by omega) h2 h3 h4 h5 h6 h7 h8
          rw [← nI_1] at e
          iterate 2 (refine hP _ ?_; conv => whnf)
          exact e
        have hd1 : cnt (cd.drop (pc + 1)) ≤ cnt (cd.drop pc) := cnt_drop_le 1 pc
        repeat (refine hP _ ?_; conv => whnf)
        refine ⟨fun _ => ?_, fun z => absurd (show nI pc < nI 260 from nI_lt (by omega) (by omega)) z⟩
        repeat (refine hP _ ?_; conv => whnf)
        refine ⟨vp_in_nI (by omega) (by omega), ?_⟩
        rw [nI_clamp (by omega)]
        repeat (refine hP _ ?_; conv => whnf)
        refine ⟨vp_in_nI (by omega) (by omega), ?_⟩
        rw [nI_clamp (by omega)]
        repeat (refine hP _ ?_; conv => whnf)
        refine ⟨vp_in_nI (by omega) (by omega), ?_⟩
        rw [nI_clamp (by omega)]
        rcases hokx with h0 | ⟨h1, i, i20, hi⟩ | ⟨h2, i, i20, hi⟩ | ⟨h34, t, t1, t2, ht⟩ | ⟨h5, ha⟩
        · rw [h0] at hk hcx ⊢
          rw [if_pos rfl] at hk
          rw [if_pos (by decide)] at hcx
          repeat (refine hP _ ?_; conv => whnf)
          refine ⟨fun _ => ?_, fun w => absurd rfl w⟩
          repeat (refine hP _ ?_; conv => whnf)
          refine c_addToTrace (n := n) hC' j2 (by omega) ?_
          rw [nI_1]
          iterate 1 (refine hP _ ?_; conv => whnf)
          refine back left (tr ++ [J 15 pc]) nm _ (pc + 1) _ _ _ (by omega) (by omega) (by rw [List.length_append, List.length_singleton]; omega) (by rw [List.length_append]; simp [m_upr]) (by simp [m_upr]; exact j3) ?_ ((hF.up rfl).up rfl) hk
          obtain ⟨y1, y2⟩ := hTr.add (x := J 15 pc) (by decide)
          exact ⟨fun j hj => Eq.trans (by simp [m_upr]) (y1 j hj), fun i hi => Eq.trans (by simp [m_upr]) (y2 i hi)⟩
        · rw [h1] at hk hcx ⊢
          rw [if_neg (by decide), if_pos rfl] at hk
          rw [if_pos (by decide)] at hcx
          rw [hi] at hk
          repeat (refine hP _ ?_; conv => whnf)
          refine ⟨fun w => absurd w (by decide), fun _ => ?_⟩
          repeat (refine hP _ ?_; conv => whnf)
          refine ⟨fun _ => ?_, fun w => absurd rfl w⟩
          repeat (refine hP _ ?_; conv => whnf)
          rw [hi]
          refine c_isName (n := n) hC' i20 ?_
          repeat (refine hP _ ?_; conv => whnf)
          refine ⟨fun w => absurd w (by decide), fun _ => ?_⟩
          repeat (refine hP _ ?_; conv => whnf)
          refine ⟨vp_in_nI (by omega) (by omega), ?_⟩
          rw [nI_clamp (by omega)]
          repeat (refine hP _ ?_; conv => whnf)
          refine c_addToTrace (n := n) hC' j2 (by omega) ?_
          rw [nI_1]
          rw [nI_clamp (by omega)] at hk
          have hnm : J 29 i = nm i := hTr.2 i i20
          rw [hnm]
          iterate 1 (refine hP _ ?_; conv => whnf)
          refine back left (tr ++ [nm i]) nm _ (pc + 1) _ _ _ (by omega) (by omega) (by rw [List.length_append, List.length_singleton]; omega) (by rw [List.length_append]; simp [m_upr]) (by simp [m_upr]; exact j3) ?_ ((hF.up rfl).up rfl) hk
          obtain ⟨y1, y2⟩ := hTr.add (x := nm i) (by decide)
          exact ⟨fun j hj => Eq.trans (by simp [m_upr]) (y1 j hj), fun i hi => Eq.trans (by simp [m_upr]) (y2 i hi)⟩
        · rw [h2] at hk hcx ⊢
          rw [if_neg (by decide), if_neg (by decide), if_pos rfl] at hk
          rw [hi] at hk
          repeat (refine hP _ ?_; conv => whnf)
          refine ⟨fun w => absurd w (by decide), fun _ => ?_⟩
          repeat (refine hP _ ?_; conv => whnf)
          refine ⟨fun w => absurd w (by decide), fun _ => ?_⟩
          repeat (refine hP _ ?_; conv => whnf)
          refine ⟨fun _ => ?_, fun w => absurd rfl w⟩
          repeat (refine hP _ ?_; conv => whnf)
          rw [hi]
          refine c_isName (n := n) hC' i20 ?_
          repeat (refine hP _ ?_; conv => whnf)
          refine ⟨fun w => absurd w (by decide), fun _ => ?_⟩
          repeat (refine hP _ ?_; conv => whnf)
          refine ⟨vp_in_nI (by omega) (by omega), ?_⟩
          rw [nI_clamp (by omega), nI_1]
          rw [nI_clamp (by omega)] at hk
          iterate 1 (refine hP _ ?_; conv => whnf)
          exact back left tr _ _ (pc + 1) _ _ _ (by omega) (by omega) (by omega) (by simp [m_upr]; exact j2) (by simp [m_upr]; exact j3) (hTr.set (by decide)) (hF.up rfl) hk
        · have hdt : cnt (cd.drop t) ≤ cnt (cd.drop pc) := by
            have := cnt_drop_le (cd := cd) (t - pc) pc
            rw [show pc + (t - pc) = t by omega] at this
            exact this
          rw [ht] at hk
          rw [nI_clamp (by omega)] at hk
          rcases h34 with h3 | h4
          · rw [h3] at hk hcx ⊢
            rw [if_neg (by decide), if_neg (by decide), if_neg (by decide), if_pos rfl] at hk
            repeat (refine hP _ ?_; conv => whnf)
            refine ⟨fun w => absurd w (by decide), fun _ => ?_⟩
            repeat (refine hP _ ?_; conv => whnf)
            refine ⟨fun w => absurd w (by decide), fun _ => ?_⟩
            repeat (refine hP _ ?_; conv => whnf)
            refine ⟨fun w => absurd w (by decide), fun _ => ?_⟩
            repeat (refine hP _ ?_; conv => whnf)
            refine ⟨fun _ => ?_, fun w => absurd rfl w⟩
            repeat (refine hP _ ?_; conv => whnf)
            rw [nI_1]
            refine ⟨fun w => ?_, fun w => ?_⟩
            · rw [if_pos w] at hk
              iterate 8 (refine hP _ ?_; conv => whnf)
              exact back _ tr nm J (pc + 1) _ _ _ (by omega) (by omega) (by omega) j2 j3 hTr hF hk
            · rw [if_neg w] at hk
              rw [ht]
              iterate 7 (refine hP _ ?_; conv => whnf)
              exact back _ tr nm J t _ _ _ t1 t2 (by omega) j2 j3 hTr hF hk
          · rw [h4] at hk hcx ⊢
            rw [if_neg (by decide), if_neg (by decide), if_neg (by decide), if_neg (by decide), if_pos rfl] at hk
            repeat (refine hP _ ?_; conv => whnf)
            refine ⟨fun w => absurd w (by decide), fun _ => ?_⟩
            repeat (refine hP _ ?_; conv => whnf)
            refine ⟨fun w => absurd w (by decide), fun _ => ?_⟩
            repeat (refine hP _ ?_; conv => whnf)
            refine ⟨fun w => absurd w (by decide), fun _ => ?_⟩
            repeat (refine hP _ ?_; conv => whnf)
            refine ⟨fun w => absurd w (by decide), fun _ => ?_⟩
            repeat (refine hP _ ?_; conv => whnf)
            refine ⟨fun _ => ?_, fun w => absurd rfl w⟩
            rw [ht]
            iterate 3 (refine hP _ ?_; conv => whnf)
            exact back _ tr nm J t _ _ _ t1 t2 (by omega) j2 j3 hTr hF hk
        · rw [h5] at hk ⊢
          rw [if_neg (by decide), if_neg (by decide), if_neg (by decide), if_neg (by decide), if_neg (by decide)] at hk
          repeat (refine hP _ ?_; conv => whnf)
          refine ⟨fun w => absurd w (by decide), fun _ => ?_⟩
          repeat (refine hP _ ?_; conv => whnf)
          refine ⟨fun w => absurd w (by decide), fun _ => ?_⟩
          repeat (refine hP _ ?_; conv => whnf)
          refine ⟨fun w => absurd w (by decide), fun _ => ?_⟩
          repeat (refine hP _ ?_; conv => whnf)
          refine ⟨fun w => absurd w (by decide), fun _ => ?_⟩
          repeat (refine hP _ ?_; conv => whnf)
          refine ⟨fun w => absurd w (by decide), fun _ => ?_⟩
          repeat (refine hP _ ?_; conv => whnf)
          refine ⟨fun _ => ?_, fun w => absurd rfl w⟩
          repeat (refine hP _ ?_; conv => whnf)
          refine hk _ ?_ (by simp [m_upr]; exact j2) (by show tr.length ≤ 120; omega) (by simp [m_upr]) (hF.up rfl)
          exact ⟨fun j hj => Eq.trans (by simp [m_upr]) (hTr.1 j hj), fun i hi => Eq.trans (by simp [m_upr]) (hTr.2 i hi)⟩
  iterate 6 (refine hP _ ?_; conv => whnf)
  have hc0 : cnt (cd.drop p0) ≤ cnt cd := by
    have := cnt_drop_le (cd := cd) p0 0
    simpa using this
  exact loop 260 0 p0 flags [] nm I none none none (by omega) (Nat.zero_le _) hp (by simp; omega) h2 h3 hT Fr.rf hK
