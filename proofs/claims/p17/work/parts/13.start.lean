/-! ===== the law's start ===== -/
def R_law : String := "SwitchRulesLaw"
def lw_P (b : Addr) (xs : List Int32) (args : Array Value) (s : State) : Prop := args = #[.ref b] ∧ s.IntsAt b xs ∧ xs.length ≤ 256 ∧ (Jvm.Cond.and given_1 narrow_1).before args s = true
def lw_Q (_ : Array Value) (s : State) (o : Outcome) (t : State) : Prop := o = .returned (some (.int 1)) ∧ Framed s o t [] 600000 7302250
def lw_Z (below : List Frame) (a : Array Value) (s : State) : State → Prop := fun t => ∃ o, t.status = .running ∧ Ended t below o ∧ lw_Q a s o t
/-- the law's own end, with 1 on the stack, nothing written that was there before, its room as the claim has it -/
theorem lw_ret {p : Program} {l : Launch} {e : Env} {s : State} {m : MethodId} {below : List Frame} {meth : Method} {c : Code} {b : Nat} (hx : p.tables.exec = Jvm.exec) (hb : c.code = code) (hr : meth.sig.returnType = ret) (hlocks : meth.locks = false) {pc : Nat} {H : Heap} {ls : Array Slot} (hdg : decode code pc = .ok (.ireturn, 1)) : W p l e room_1 s m #[Value.ref b] below meth c H [] 600000 7302250 (lw_Z below #[Value.ref b] s) (F0 m pc ls [.int 1]) := by
  intro T hT X
  obtain ⟨fs, hret, hrun, hended, hW, hframe⟩ := X.leave (v := some (.int 1)) (hlocks := hlocks) (fun h => by rw [hr] at h; cases h)
  have hmeth' : T.vm.method? m = some meth := X.method'
  refine ⟨T.setFrames fs, ?_, .returned (some (.int 1)), hrun, hended, rfl, ⟨_, rfl⟩, hW, hframe⟩
  jvm_step X.here [X.here.top, hx, hb, hdg, hmeth', hr, ret, narrow_b1]
  (try refine ⟨rfl, ?_⟩); (try refine ⟨rfl, ?_⟩)
  first | (intro acts; rw [hret _ acts rfl rfl rfl]) | rw [hret _ _ rfl rfl rfl]
  exact Steps.refl _
/-- what holds at the law's entry: the machine, the code, the tables' words (any of lw_tbl by 'hts w (by decide +kernel)'), the script of L ints xs at the cell b, what the Statement gives of the start (any of its parts by flat_of_before) -/
def lw_At (p : Program) (s : State) (m : MethodId) (meth : Method) (c : Code) (b L : Nat) (xs : Nat → Int32) : Prop :=
  p.tables.exec = Jvm.exec ∧ c.code = code ∧ meth.sig.returnType = ret ∧ c.maxLocals = 4 ∧ s.vm.findClass R_law = some m.cls ∧ (∀ w ∈ lw_tbl, w.before #[Value.ref b] s = true) ∧ va_X b L xs s s.heap ∧ b < s.heap.size ∧ meth.locks = false ∧ (Jvm.Cond.and given_1 narrow_1).before #[Value.ref b] s = true
def m_npL : List (Nat × Nat × Nat) := [(0, 1, 27), (0, 2, 37), (0, 3, 49), (0, 4, 60), (0, 5, 72), (0, 6, 88), (0, 7, 101), (0, 8, 115), (0, 9, 130), (0, 10, 148), (0, 11, 167), (0, 12, 187), (0, 13, 205), (0, 14, 226), (1, 2, 38), (1, 3, 50), (1, 4, 61), (1, 5, 73), (1, 6, 89), (1, 7, 102), (1, 8, 116), (1, 9, 131), (1, 10, 149), (1, 11, 168), (1, 12, 188), (1, 13, 206), (1, 14, 227), (2, 3, 51), (2, 4, 62), (2, 5, 74), (2, 6, 90), (2, 7, 103), (2, 8, 117), (2, 9, 132), (2, 10, 150), (2, 11, 169), (2, 12, 189), (2, 13, 207), (2, 14, 228), (3, 4, 63), (3, 5, 75), (3, 6, 91), (3, 7, 104), (3, 8, 118), (3, 9, 133), (3, 10, 151), (3, 11, 170), (3, 12, 190), (3, 13, 208), (3, 14, 229), (4, 5, 76), (4, 6, 92), (4, 7, 105), (4, 8, 119), (4, 9, 134), (4, 10, 152), (4, 11, 171), (4, 12, 191), (4, 13, 209), (4, 14, 230), (5, 6, 93), (5, 7, 106), (5, 8, 120), (5, 9, 135), (5, 10, 153), (5, 11, 172), (5, 12, 192), (5, 13, 210), (5, 14, 231), (6, 7, 107), (6, 8, 121), (6, 9, 136), (6, 10, 154), (6, 11, 173), (6, 12, 193), (6, 13, 211), (6, 14, 232), (7, 8, 122), (7, 9, 137), (7, 10, 155), (7, 11, 174), (7, 12, 194), (7, 13, 212), (7, 14, 233), (8, 9, 138), (8, 10, 156), (8, 11, 175), (8, 12, 195), (8, 13, 213), (8, 14, 234), (9, 10, 157), (9, 11, 176), (9, 12, 196), (9, 13, 214), (9, 14, 235), (10, 11, 177), (10, 12, 197), (10, 13, 215), (10, 14, 236), (11, 12, 198), (11, 13, 216), (11, 14, 237), (12, 13, 217), (12, 14, 238), (13, 14, 239)]
def m_tm (i : Nat) : Term := .string RX6 (m_strL.getD i 0)
theorem m_law_class (ci : Nat) (h : ci ≤ 9) : Cond.instantiable (m_RR ci) (m_NN ci) ∈ m_ws := by
  have hall : ∀ ci : Fin 10, ∃ q ∈ m_lkC, q.2.2 = ci.val := by decide +kernel
  obtain ⟨q, hq, he⟩ := hall ⟨ci, by omega⟩
  have := (m_lkC_ok q hq).2.1
  rw [he] at this
  exact this
theorem m_arr {s : State} {args : Array Value} {ty : FieldType} (h6 : m_t6 ty = true) (h : (Cond.arrayClass ty).before args s = true) : ∃ cA, ArrOfT s cA ty ∧ va_RA s cA ty := by
  obtain ⟨cA, kA, comp, h1, h2, h3⟩ := Cond.arrayClass_spec h
  refine ⟨cA, fun n z => ⟨fun k h => (by cases h), kA, h2, comp, h3⟩, ?_⟩
  cases ty <;> first | (cases h6; done) | exact h1
set_option maxHeartbeats 4000000 in
set_option maxRecDepth 100000 in
theorem m_ctx0 {s : State} {b L : Nat} {xs : Nat → Int32} (hts : ∀ w ∈ lw_tbl, w.before #[Value.ref b] s = true) (hX : va_X b L xs s s.heap) (hbl : b < s.heap.size) (hgv : (Jvm.Cond.and given_1 narrow_1).before #[Value.ref b] s = true) :
    ∃ (ad : Nat → Nat) (aC : FieldType → ClassId) (dC : Nat → ClassId) (dI : Nat → Nat → Nat), (∀ k, k < 1000000 → ad k = s.heap.size + k) ∧ ad 3000000 = b ∧ m_Ctx ad aC dC dI s.heap.size L xs s := by
  have htw : ∀ w ∈ m_ws, w.before #[Value.ref b] s = true := fun w hw => hts w (List.mem_filter.mp hw).1
  have hA : ∀ a : Nat, a < s.heap.size → ¬ (fun q => s.heap.size ≤ q) a := fun a h => Nat.not_le.mpr h
  have hs := flat_of_before _ hgv
  -- classes
  have hk : ∀ k : Nat, ∃ q : ClassId × (Nat → Nat), k ≤ 9 → u_Kn s (m_RR k) (m_TT k) (m_NN k) q.1 q.2 := by
    intro k
    by_cases h : k ≤ 9
    · obtain ⟨c0, i0, h0⟩ := u_known (C := m_RR k) (T := m_TT k) (N := m_NN k) (n := m_NN k) htw (m_lay k h) (htw _ (m_law_class k h))
      exact ⟨(c0, i0), fun _ => h0⟩
    · exact ⟨(0, fun _ => 0), fun h2 => absurd h2 h⟩
  obtain ⟨dd, hdd⟩ := Classical.axiomOfChoice hk
  -- array classes
  obtain ⟨aB, hB⟩ := m_arr (ty := .byte) rfl (htw _ m_ac_byte)
  obtain ⟨aCh, hCh⟩ := m_arr (ty := .char) rfl (htw _ m_ac_char)
  obtain ⟨aI, hI⟩ := m_arr (ty := .int) rfl (htw _ m_ac_int)
  obtain ⟨aL, hLg⟩ := m_arr (ty := .long) rfl (htw _ m_ac_long)
  obtain ⟨aS, hSh⟩ := m_arr (ty := .short) rfl (htw _ m_ac_short)
  obtain ⟨aZ, hZ⟩ := m_arr (ty := .boolean) rfl (htw _ m_ac_boolean)
  -- Strings
  have c1 : ∀ i : Fin 15, Cond.exactly (m_tm i.val) "java/lang/String" ∈ flatC (Jvm.Cond.and given_1 narrow_1) := by decide +kernel
  have c2 : ∀ i : Fin 15, Cond.eq (.field (m_tm i.val) "java/lang/String" "coder" "B") (.int 0) ∈ flatC (Jvm.Cond.and given_1 narrow_1) := by decide +kernel
  have c3 : ∀ i : Fin 15, Cond.arrayOf (.field (m_tm i.val) "java/lang/String" "value" "[B") .byte ∈ flatC (Jvm.Cond.and given_1 narrow_1) := by decide +kernel
  have c4 : ∀ i : Fin 15, Cond.eq (.length (.field (m_tm i.val) "java/lang/String" "value" "[B")) (.int (Int32.ofNat (m_slen.getD i.val 0))) ∈ flatC (Jvm.Cond.and given_1 narrow_1) := by decide +kernel
  have c5 : ∀ i : Fin 15, ∀ j : Fin 8, j.val < m_slen.getD i.val 0 → Cond.eq (.elem (.field (m_tm i.val) "java/lang/String" "value" "[B") (.int (Int32.ofNat j.val))) (.int ((m_sbyt.getD i.val []).getD j.val 0)) ∈ flatC (Jvm.Cond.and given_1 narrow_1) := by decide +kernel
  have c6 : ∀ q ∈ m_npL, (flatC (Jvm.Cond.and given_1 narrow_1))[q.2.2]? = some (Cond.not (Cond.eq (m_tm q.1) (m_tm q.2.1))) := by decide +kernel
  have c8 : ∀ i j : Fin 15, i.val < j.val → ∃ q ∈ m_npL, q.1 = i.val ∧ q.2.1 = j.val := by decide +kernel
  have c9 : ∀ i j : Nat, i < j → j < 15 → Cond.not (Cond.eq (m_tm i) (m_tm j)) ∈ flatC (Jvm.Cond.and given_1 narrow_1) := by
    intro i j hij hj
    obtain ⟨q, hq, e1, e2⟩ := c8 ⟨i, by omega⟩ ⟨j, hj⟩ hij
    simp only at e1 e2
    have := List.mem_of_getElem? (c6 q hq)
    rw [e1, e2] at this
    exact this
  have c7 : ∀ i : Fin 15, m_slen.getD i.val 0 < 8 := by decide +kernel
  obtain ⟨adK, adV, hvS, hvE⟩ := vk_Sof (args := #[Value.ref b]) (s := s) (N := 15) (tm := m_tm) (len := m_slen) (byt := m_sbyt) (A := fun q => s.heap.size ≤ q) (fun i hi => by have := c7 ⟨i, hi⟩; simp only at this; omega) (fun i hi => hs _ (c1 ⟨i, hi⟩)) (fun i hi => hs _ (c2 ⟨i, hi⟩)) (fun i hi => hs _ (c3 ⟨i, hi⟩)) (fun i hi => hs _ (c4 ⟨i, hi⟩)) (fun i hi j hj => hs _ (c5 ⟨i, hi⟩ ⟨j, by have := c7 ⟨i, hi⟩; simp only at this; omega⟩ hj)) (fun i j hi hj hij => by
    rcases Nat.lt_or_ge i j with h | h
    · exact Or.inl (hs _ (c9 i j h hj))
    · exact Or.inr (hs _ (c9 j i (by omega) hi))) hA
  refine ⟨fun k => if k < 1000000 then s.heap.size + k else if k < 2000000 then adK (k - 1000000) else if k < 3000000 then adV (k - 2000000) else b, fun ty => match ty with | .byte => aB | .char => aCh | .int => aI | .long => aL | .short => aS | _ => aZ, fun k => (dd k).1, fun k => (dd k).2, fun k hk => by simp [hk], by simp, ?_⟩
  refine ⟨⟨fun k q hq => ?_, fun k q hq => ?_⟩, fun w hw => ?_, ⟨by simpa using hX, by simpa using hbl⟩, fun i hi => ?_, ?_, ?_, ?_, Nat.le_refl _⟩
  · have hk9 : k ≤ 9 := by
      have := (List.getElem?_eq_some_iff.mp hq).1
      simp only [vwCl, List.length_cons, List.length_nil] at this
      omega
    rw [m_cl k hk9] at hq
    cases hq
    exact hdd k hk9
  · match k, hq with
    | 0, hq => cases hq; exact hB
    | 1, hq => cases hq; exact hCh
    | 2, hq => cases hq; exact hI
    | 3, hq => cases hq; exact hLg
    | 4, hq => cases hq; exact hSh
    | 5, hq => cases hq; exact hZ
    | k + 6, hq => simp [m_tys] at hq
  · have hn := (List.mem_filter.mp hw).2
    have hb := hts w (List.mem_filter.mp hw).1
    cases w <;> first | (cases hn; done) | exact va_Nw.of rfl hb
  · have h1 : ¬ (1000000 + i < 1000000) := by omega
    have h2 : 1000000 + i < 2000000 := by omega
    simp only [h1, h2, if_false, if_true, Nat.add_sub_cancel_left]
    exact vk_R.of (A := #[Value.ref b]) (hts _ (m_str_ok i hi)) (hvE i hi)
  · have e1 : ∀ i, i < 15 → (if 1000000 + i < 1000000 then s.heap.size + (1000000 + i) else if 1000000 + i < 2000000 then adK (1000000 + i - 1000000) else if 1000000 + i < 3000000 then adV (1000000 + i - 2000000) else b) = adK i := by
      intro i hi
      rw [if_neg (by omega), if_pos (by omega), Nat.add_sub_cancel_left]
    have e2 : ∀ i, i < 15 → (if 2000000 + i < 1000000 then s.heap.size + (2000000 + i) else if 2000000 + i < 2000000 then adK (2000000 + i - 1000000) else if 2000000 + i < 3000000 then adV (2000000 + i - 2000000) else b) = adV i := by
      intro i hi
      rw [if_neg (by omega), if_neg (by omega), if_pos (by omega), Nat.add_sub_cancel_left]
    refine ⟨fun i hi => ?_, fun i j hi hj hij => ?_⟩
    · have := hvS.1 i hi
      simp only [e1 i hi, e2 i hi]
      exact this
    · simp only [e1 i hi, e1 j hj] at hij
      exact hvS.2 i j hi hj hij
  · exact va_Zof (hts _ (by decide +kernel)) (hts _ (by decide +kernel)) (va_eqi (hs _ (by decide +kernel))) hA
  · exact va_Zqof (hts _ (by decide +kernel)) (hts _ (by decide +kernel)) (hs _ (by decide +kernel)) hA
set_option maxHeartbeats 4000000 in
/-- the law, out of a walk of the small machine -/
theorem m_whole_open {p : Program} {e : Env} {s : State} {m : MethodId} {below : List Frame} {meth : Method} {c : Code} (l : Launch) {b L : Nat} {xs : Nat → Int32} (C0 : lw_At p s m meth c b L xs)
    (hPW : ∀ (ad : Nat → Nat) (aC : FieldType → ClassId) (dC : Nat → ClassId) (dI : Nat → Nat → Nat) (base d : Nat) (as : List Value) (w : mW) (K : mK), 8 ≤ d → m_pwC as w K → m_Met l ad aC dC dI base L xs (d + 1) 62 as w K)
    (hwp : m_WP L xs (m_C L xs 100) kL_law (some .boolean) 0 57 20924 (fun r _ => r = some (.int 1)) (0, m_pad 4 (m_ent [.ref 3000000]), [], ([], fun _ _ => 0, fun _ _ => 0), 0, 0)) :
    W p l e room_1 s m #[Value.ref b] below meth c s.heap [] 0 0 (lw_Z below #[Value.ref b] s) (entryFrame m ([Value.ref b] : List Value).toArray 4) := by
  obtain ⟨hx, hb, hr, hml, hown, hts, hX, hbl, hlocks, hgv⟩ := C0
  obtain ⟨ad, aC, dC, dI, had, hab, hctx⟩ := m_ctx0 hts hX hbl hgv
  have htw : ∀ w ∈ m_ws, w.before #[Value.ref b] s = true := fun w hw => hts w (List.mem_filter.mp hw).1
  have Cx : m_Cx p room_1 s m #[Value.ref b] c code 4 10 ad aC dC dI s.heap.size L xs 100 := ⟨hx, hb, hml, hown, htw, hctx, had, by decide, by decide⟩
  have hR : m_Ret p l e room_1 s m #[Value.ref b] below meth c (lw_Z below #[Value.ref b] s) ad aC dC dI s.heap.size code (some .boolean) 57 20924 (fun r _ => r = some (.int 1)) := by
    intro rv w H locs ls pc hq hP hsz hl hS
    refine ⟨fun x ty hrv hrt hn hdg => ?_, fun x hrv hrt hdg => (by cases hrt), fun hrv hrt hdg => (by cases hrt)⟩
    rw [hrv] at hq
    cases hq
    refine va_forget (fun q hq => hS.2.2 q hq) ?_
    refine W.widen (k := 600000) (n := 7302250) (by decide) (by decide) ?_
    exact lw_ret hx hb hr hlocks hdg
  have key := hwp _ (m_step (p := p) (l := l) (e := e) (R := room_1) (s := s) (m := m) (below := below) (meth := meth) (c := c) (QT := lw_Z below #[Value.ref b] s) Cx kL_law_ok (fun x h => by omega) (m_met_open had (fun d as w K h8 h => hPW ad aC dC dI s.heap.size d as w K h8 h) 100) ⟨by decide, by decide⟩ hR)
  have he : ([Value.ref b] : List Value) = ([.ref 3000000] : List Value).map (m_tr ad) := by simp [m_tr, hab]
  have hlh := m_lh_entry ad [.ref 3000000] 4 (by decide)
  rw [← he] at hlh
  rw [lg_entry_eq]
  exact key s.heap [] _ (fun k q h => by simp [m_wl] at h) (by simp) (by simp) va_S.rf hlh
