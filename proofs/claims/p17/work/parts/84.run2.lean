/-! ===== the reference's runs ===== -/
def S_rg : Nat → Nat → Bool := fun p q => (p == 30 && (q == 47 || q == 48 || q == 49)) || p == 52 || p == 53
/-- the same, but for whether there was one -/
def S_rh : Nat → Nat → Bool := fun p q => (p == 30 && (q == 48 || q == 49)) || p == 52 || p == 53
theorem r_runGo {XL : Nat} {XS : Nat → Int32} {C' : mC} {K : mK} {P : mT → Prop} {cd : Cd} {I : Nat → Nat → Int32} {L : Nat → Nat → Int64} {v0 flags0 arm0 : Int32} (hP : ∀ t, m_F XL XS C' kX9_run (some .int) 0 0 0 K P t → P t) (h260 : cd.length ≤ 260) (hcd : ∀ j x, cd[j]? = some x → (I 41 j, I 42 j, I 43 j) = mcd x) (hst : (I 41 cd.length, I 42 cd.length, I 43 cd.length) = (3, 0, 0)) (hok : ∀ j x, cd[j]? = some x → okS j cd.length x) :
    ∀ (f pc : Nat) (left : Int32) (tr : List Int32) (nm : Nat → Int32) (J : Nat → Nat → Int32) (l6 : Option Value), pc ≤ cd.length → cd.length ≤ pc + f → tr.length + cnt (cd.drop pc) ≤ 120 → J 30 49 = nI tr.length → J 30 48 = 0 → TrR 52 53 tr nm J → Fr S_rh I J →
      (∀ I', TrR 52 53 (jgo cd f pc left tr nm).2.1 (jgo cd f pc left tr nm).2.2 I' → I' 30 49 = nI (jgo cd f pc left tr nm).2.1.length → I' 30 48 = (jgo cd f pc left tr nm).1.2 → Fr S_rh I I' → K (some (.int (jgo cd f pc left tr nm).1.1)) (m_SH, I', L)) →
      P (74, [some (.ref 30), some (.int v0), some (.int flags0), some (.int arm0), some (.int (nI pc)), some (.int left), l6], [], (m_SH, J, L), 0, 0) := by
  have stop : ∀ (left : Int32) (tr : List Int32) (nm : Nat → Int32) (J : Nat → Nat → Int32) (l6 : Option Value), J 30 49 = nI tr.length → J 30 48 = 0 → TrR 52 53 tr nm J → Fr S_rh I J → (∀ I', TrR 52 53 tr nm I' → I' 30 49 = nI tr.length → I' 30 48 = 0 → Fr S_rh I I' → K (some (.int 1)) (m_SH, I', L)) → P (74, [some (.ref 30), some (.int v0), some (.int flags0), some (.int arm0), some (.int (nI cd.length)), some (.int left), l6], [], (m_SH, J, L), 0, 0) := by
    intro left tr nm J l6 j49 j48 hTr hF hk
    have h41 : J 41 cd.length = 3 := by rw [hF 41 _ rfl]; exact congrArg (fun x => x.1) hst
    repeat (refine hP _ ?_; conv => whnf)
    refine ⟨vp_in_nI (by omega) (by omega), ?_⟩
    rw [nI_clamp (by omega)]
    repeat (refine hP _ ?_; conv => whnf)
    refine ⟨vp_in_nI (by omega) (by omega), ?_⟩
    rw [nI_clamp (by omega), h41]
    repeat (refine hP _ ?_; conv => whnf)
    refine ⟨fun w => absurd w (by decide), fun _ => ?_⟩
    refine ⟨fun w => absurd w (by decide), fun _ => ?_⟩
    refine ⟨fun w => absurd w (by decide), fun _ => ?_⟩
    refine ⟨fun _ => ?_, fun w => absurd rfl w⟩
    repeat (refine hP _ ?_; conv => whnf)
    exact hk J hTr j49 j48 hF
  intro f
  induction f with
  | zero =>
    intro pc left tr nm J l6 hpl hf hn j49 j48 hTr hF hk
    have hpc : pc = cd.length := by omega
    subst hpc
    exact stop left tr nm J l6 j49 j48 hTr hF hk
  | succ f ih =>
    intro pc left tr nm J l6 hpl hf hn j49 j48 hTr hF hk
    unfold jgo at hk
    by_cases hlt : pc < cd.length
    · have hx : cd[pc]? = some cd[pc] := List.getElem?_eq_getElem hlt
      have hokx := hok pc _ hx
      have hcx := cnt_drop hx
      have hm := hcd pc _ hx
      rw [hx] at hk
      generalize cd[pc] = x at hk hokx hcx hm hx
      have hm41 : J 41 pc = (mcd x).1 := by rw [hF 41 pc rfl]; exact congrArg (fun x => x.1) hm
      have hm42 : J 42 pc = (mcd x).2.1 := by rw [hF 42 pc rfl]; exact congrArg (fun x => x.2.1) hm
      have hm43 : J 43 pc = (mcd x).2.2 := by rw [hF 43 pc rfl]; exact congrArg (fun x => x.2.2) hm
      simp only at hk
      have back : ∀ (left' : Int32) (tr' : List Int32) (nm' : Nat → Int32) (J' : Nat → Nat → Int32) (pc' : Nat) (y : Int32) (l6 : Option Value), y + 1 = nI pc' → pc < pc' → pc' ≤ cd.length → tr'.length + cnt (cd.drop pc') ≤ 120 → J' 30 49 = nI tr'.length → J' 30 48 = 0 → TrR 52 53 tr' nm' J' → Fr S_rh I J' → (∀ I', TrR 52 53 (jgo cd f pc' left' tr' nm').2.1 (jgo cd f pc' left' tr' nm').2.2 I' → I' 30 49 = nI (jgo cd f pc' left' tr' nm').2.1.length → I' 30 48 = (jgo cd f pc' left' tr' nm').1.2 → Fr S_rh I I' → K (some (.int (jgo cd f pc' left' tr' nm').1.1)) (m_SH, I', L)) →
          P (254, [some (.ref 30), some (.int v0), some (.int flags0), some (.int arm0), some (.int y), some (.int left'), l6], [], (m_SH, J', L), 0, 0) := by
        intro left' tr' nm' J' pc' y l6 hy h1 h2 h3 h4 h5 h6 h7 h8
        have e := ih pc' left' tr' nm' J' l6 h2 (by omega) h3 h4 h5 h6 h7 h8
        rw [← hy] at e
        iterate 2 (refine hP _ ?_; conv => whnf)
        exact e
      have hd1 : cnt (cd.drop (pc + 1)) ≤ cnt (cd.drop pc) := cnt_drop_le 1 pc
      repeat (refine hP _ ?_; conv => whnf)
      refine ⟨vp_in_nI (by omega) (by omega), ?_⟩
      rw [nI_clamp (by omega)]
      repeat (refine hP _ ?_; conv => whnf)
      refine ⟨vp_in_nI (by omega) (by omega), ?_⟩
      rw [nI_clamp (by omega), hm41, hm42]
      obtain ⟨k, a, b⟩ := x
      unfold okS at hokx
      simp only at hk hokx hcx
      rcases hokx with h0 | ⟨h1, i, i20, hi⟩ | ⟨h2, i, i20, hi⟩ | ⟨h34, t, t1, t2, ht⟩ | ⟨h5, ha⟩
      · subst h0
        rw [if_pos rfl] at hk
        rw [if_pos (by decide)] at hcx
        rw [show (mcd (0, a, b)).1 = 0 from rfl, show (mcd (0, a, b)).2.1 = a from rfl]
        repeat (refine hP _ ?_; conv => whnf)
        refine ⟨fun _ => ?_, fun w => absurd rfl w⟩
        repeat (refine hP _ ?_; conv => whnf)
        rw [j49]
        refine ⟨vp_in_nI (by omega) (by omega), ?_⟩
        rw [nI_clamp (by omega)]
        iterate 7 (refine hP _ ?_; conv => whnf)
        rw [show m_up J 52 tr.length a 30 49 = nI tr.length by simp [m_upr, j49], nI_1]
        refine back left (tr ++ [a]) nm _ (pc + 1) _ _ (nI_1 pc) (by omega) (by omega) (by rw [List.length_append, List.length_singleton]; omega) (by rw [List.length_append]; simp [m_upr]) (by simp [m_upr]; exact j48) ?_ ((hF.up rfl).up rfl) hk
        obtain ⟨y1, y2⟩ := hTr.add (x := a) (by decide)
        exact ⟨fun j hj => Eq.trans (by simp [m_upr]) (y1 j hj), fun i hi => Eq.trans (by simp [m_upr]) (y2 i hi)⟩
      · subst h1
        rw [if_neg (by decide), if_pos rfl] at hk
        rw [if_pos (by decide)] at hcx
        subst hi
        rw [nI_clamp (by omega)] at hk
        rw [show (mcd (1, nI i, b)).1 = 1 from rfl, show (mcd (1, nI i, b)).2.1 = nI i from rfl]
        repeat (refine hP _ ?_; conv => whnf)
        refine ⟨fun w => absurd w (by decide), fun _ => ?_⟩
        refine ⟨fun _ => ?_, fun w => absurd rfl w⟩
        repeat (refine hP _ ?_; conv => whnf)
        refine ⟨vp_in_nI (by omega) (by omega), ?_⟩
        rw [nI_clamp (by omega), hTr.2 i i20]
        repeat (refine hP _ ?_; conv => whnf)
        rw [j49]
        refine ⟨vp_in_nI (by omega) (by omega), ?_⟩
        rw [nI_clamp (by omega)]
        iterate 7 (refine hP _ ?_; conv => whnf)
        rw [show m_up J 52 tr.length (nm i) 30 49 = nI tr.length by simp [m_upr, j49], nI_1]
        refine back left (tr ++ [nm i]) nm _ (pc + 1) _ _ (nI_1 pc) (by omega) (by omega) (by rw [List.length_append, List.length_singleton]; omega) (by rw [List.length_append]; simp [m_upr]) (by simp [m_upr]; exact j48) ?_ ((hF.up rfl).up rfl) hk
        obtain ⟨y1, y2⟩ := hTr.add (x := nm i) (by decide)
        exact ⟨fun j hj => Eq.trans (by simp [m_upr]) (y1 j hj), fun i hi => Eq.trans (by simp [m_upr]) (y2 i hi)⟩
      · subst h2
        rw [if_neg (by decide), if_neg (by decide), if_pos rfl] at hk
        subst hi
        rw [nI_clamp (by omega)] at hk
        have hm43 : J 43 pc = b := hm43
        rw [show (mcd (2, nI i, b)).1 = 2 from rfl, show (mcd (2, nI i, b)).2.1 = nI i from rfl]
        repeat (refine hP _ ?_; conv => whnf)
        refine ⟨fun w => absurd w (by decide), fun _ => ?_⟩
        refine ⟨fun w => absurd w (by decide), fun _ => ?_⟩
        refine ⟨fun _ => ?_, fun w => absurd rfl w⟩
        repeat (refine hP _ ?_; conv => whnf)
        refine ⟨vp_in_nI (by omega) (by omega), ?_⟩
        rw [nI_clamp (by omega), hm43]
        repeat (refine hP _ ?_; conv => whnf)
        refine ⟨vp_in_nI (by omega) (by omega), ?_⟩
        rw [nI_clamp (by omega)]
        iterate 1 (refine hP _ ?_; conv => whnf)
        exact back left tr _ _ (pc + 1) _ _ (nI_1 pc) (by omega) (by omega) (by omega) (by simp [m_upr]; exact j49) (by simp [m_upr]; exact j48) (hTr.set (by decide)) (hF.up rfl) hk
      · have hdt : cnt (cd.drop t) ≤ cnt (cd.drop pc) := by
          have := cnt_drop_le (cd := cd) (t - pc) pc
          rw [show pc + (t - pc) = t by omega] at this
          exact this
        have ht1 : nI t - 1 + 1 = nI t := by
          rw [show (1 : Int32) = nI 1 from rfl, sub_nI (by omega), nI_add]
          congr 1
          omega
        subst ht
        rw [nI_clamp (by omega)] at hk
        rcases h34 with h3 | h4
        · subst h3
          rw [if_neg (by decide), if_neg (by decide), if_neg (by decide), if_pos rfl] at hk
          rw [show (mcd (3, nI t, b)).1 = 6 from rfl, show (mcd (3, nI t, b)).2.1 = nI t from rfl]
          repeat (refine hP _ ?_; conv => whnf)
          refine ⟨fun w => absurd w (by decide), fun _ => ?_⟩
          refine ⟨fun w => absurd w (by decide), fun _ => ?_⟩
          refine ⟨fun w => absurd w (by decide), fun _ => ?_⟩
          refine ⟨fun w => absurd w (by decide), fun _ => ?_⟩
          refine ⟨fun w => absurd w (by decide), fun _ => ?_⟩
          refine ⟨fun w => absurd w (by decide), fun _ => ?_⟩
          refine ⟨fun _ => ?_, fun w => absurd rfl w⟩
          repeat (refine hP _ ?_; conv => whnf)
          refine ⟨fun w => ?_, fun w => ?_⟩
          · rw [if_pos w] at hk
            iterate 8 (refine hP _ ?_; conv => whnf)
            exact back _ tr nm J (pc + 1) _ _ (nI_1 pc) (by omega) (by omega) (by omega) j49 j48 hTr hF hk
          · rw [if_neg w] at hk
            iterate 9 (refine hP _ ?_; conv => whnf)
            exact back _ tr nm J t _ _ ht1 t1 t2 (by omega) j49 j48 hTr hF hk
        · subst h4
          rw [if_neg (by decide), if_neg (by decide), if_neg (by decide), if_neg (by decide), if_pos rfl] at hk
          rw [show (mcd (4, nI t, b)).1 = 7 from rfl, show (mcd (4, nI t, b)).2.1 = nI t from rfl]
          repeat (refine hP _ ?_; conv => whnf)
          refine ⟨fun w => absurd w (by decide), fun _ => ?_⟩
          refine ⟨fun w => absurd w (by decide), fun _ => ?_⟩
          refine ⟨fun w => absurd w (by decide), fun _ => ?_⟩
          refine ⟨fun w => absurd w (by decide), fun _ => ?_⟩
          refine ⟨fun w => absurd w (by decide), fun _ => ?_⟩
          refine ⟨fun w => absurd w (by decide), fun _ => ?_⟩
          refine ⟨fun w => absurd w (by decide), fun _ => ?_⟩
          iterate 4 (refine hP _ ?_; conv => whnf)
          exact back _ tr nm J t _ _ ht1 t1 t2 (by omega) j49 j48 hTr hF hk
      · subst h5
        rw [if_neg (by decide), if_neg (by decide), if_neg (by decide), if_neg (by decide), if_neg (by decide)] at hk
        rcases ha with ⟨ha, hb⟩ | ha | ha
        · subst ha
          subst hb
          rw [show (mcd (5, 1, 0)).1 = 3 from rfl, show (mcd (5, 1, 0)).2.1 = 0 from rfl]
          repeat (refine hP _ ?_; conv => whnf)
          refine ⟨fun w => absurd w (by decide), fun _ => ?_⟩
          refine ⟨fun w => absurd w (by decide), fun _ => ?_⟩
          refine ⟨fun w => absurd w (by decide), fun _ => ?_⟩
          refine ⟨fun _ => ?_, fun w => absurd rfl w⟩
          repeat (refine hP _ ?_; conv => whnf)
          exact hk J hTr j49 j48 hF
        · subst ha
          rw [show (mcd (5, 2, b)).1 = 4 from rfl, show (mcd (5, 2, b)).2.1 = b from rfl]
          repeat (refine hP _ ?_; conv => whnf)
          refine ⟨fun w => absurd w (by decide), fun _ => ?_⟩
          refine ⟨fun w => absurd w (by decide), fun _ => ?_⟩
          refine ⟨fun w => absurd w (by decide), fun _ => ?_⟩
          refine ⟨fun w => absurd w (by decide), fun _ => ?_⟩
          refine ⟨fun _ => ?_, fun w => absurd rfl w⟩
          repeat (refine hP _ ?_; conv => whnf)
          refine hk _ ⟨fun j hj => Eq.trans (by simp [m_upr]) (hTr.1 j hj), fun i hi => Eq.trans (by simp [m_upr]) (hTr.2 i hi)⟩ (by simp [m_upr]; exact j49) (by simp [m_upr]) (hF.up rfl)
        · subst ha
          rw [show (mcd (5, 3, b)).1 = 5 from rfl, show (mcd (5, 3, b)).2.1 = b from rfl]
          repeat (refine hP _ ?_; conv => whnf)
          refine ⟨fun w => absurd w (by decide), fun _ => ?_⟩
          refine ⟨fun w => absurd w (by decide), fun _ => ?_⟩
          refine ⟨fun w => absurd w (by decide), fun _ => ?_⟩
          refine ⟨fun w => absurd w (by decide), fun _ => ?_⟩
          refine ⟨fun w => absurd w (by decide), fun _ => ?_⟩
          refine ⟨fun _ => ?_, fun w => absurd rfl w⟩
          repeat (refine hP _ ?_; conv => whnf)
          refine hk _ ⟨fun j hj => Eq.trans (by simp [m_upr]) (hTr.1 j hj), fun i hi => Eq.trans (by simp [m_upr]) (hTr.2 i hi)⟩ (by simp [m_upr]; exact j49) (by simp [m_upr]) (hF.up rfl)
    · have hpc : pc = cd.length := by omega
      subst hpc
      rw [List.getElem?_eq_none (Nat.le_refl _)] at hk
      exact stop left tr nm J l6 j49 j48 hTr hF hk
