/-! ===== calls, making, returns ===== -/
theorem m_tabY : ∀ (id : Nat) (M : mM), m_nth m_tab id = some M → m_Y id = M.1 := by
  intro id M h
  have hall : ∀ id : Fin m_tab.length, ((m_nth m_tab id.val).map (fun M => M.1)) = some (m_Y id.val) := by decide +kernel
  have hlt : id < m_tab.length := by
    rw [m_nth_eq] at h
    exact (List.getElem?_eq_some_iff.mp h).1
  have h2 := hall ⟨id, hlt⟩
  simp only [h, Option.map_some] at h2
  exact (Option.some.inj h2).symm
theorem m_na16 {id : Nat} {M : mM} (h : m_nth m_tab id = some M) : M.2.2.2.2.2.2.1 < 16 := by
  have hall : ∀ M ∈ m_tab, M.2.2.2.2.2.2.1 < 16 := by decide +kernel
  rw [m_nth_eq] at h
  exact hall M (List.mem_of_getElem? h)
theorem m_tabok {id : Nat} {M : mM} (h : m_nth m_tab id = some M) : m_Mok M := by
  rw [m_nth_eq] at h
  exact m_tab_ok M (List.mem_of_getElem? h)
theorem m_sg_of {id n kd : Nat} (h : Nat.beq (m_sg id) (n + 256 * kd) = true) (hn : n < 256) (hk : kd ≤ 2) : ∃ M, m_nth m_tab id = some M ∧ m_Mok M ∧ M.2.2.2.2.1 = kd ∧ M.2.2.2.2.2.2.1 = n % 16 ∧ M.2.2.2.2.2.1 = n / 16 := by
  have h := Nat.eq_of_beq_eq_true h
  cases hM : m_nth m_tab id with
  | none =>
    simp only [m_sg, hM] at h
    omega
  | some M =>
    simp only [m_sg, hM] at h
    have hok := m_tabok hM
    have h1 := hok.2.2.2.1.2.2.2.2.2.2
    have h2 := m_na16 hM
    refine ⟨M, rfl, hok, ?_, ?_, ?_⟩ <;> omega
theorem m_lkMN_999 : ∀ q ∈ m_lkMN, q.2.2.1 ≠ 999 := by decide +kernel
theorem m_lkM_b : ∀ q ∈ m_lkM, q.2.2.2 < 256 := by decide +kernel
theorem m_lkMN_b : ∀ q ∈ m_lkMN, q.2.2.2 < 256 := by decide +kernel
theorem m_good : GoodIn m_ws m_ws := fun w hw => ⟨hw, good_of_word (List.mem_filter.mp hw).2⟩
theorem m_good2 {M : mM} (h : m_Mok M) : GoodIn m_ws (Cond.code M.1 M.2.1 M.2.2.1 M.2.2.2.1 :: m_ws) := by
  intro w hw
  rcases List.mem_cons.mp hw with rfl | hw
  · exact m_good _ h.1
  · exact m_good _ hw
section MCALL
variable {p : Program} {l : Launch} {e : Env} {R : Room} {s : State} {m : MethodId} {args : Array Value} {below : List Frame} {meth : Method} {c : Code} {QT : State → Prop} {ad : Nat → Nat} {aC : FieldType → ClassId} {dC : Nat → ClassId} {dI : Nat → Nat → Nat} {base XL nL oi d : Nat} {XS : Nat → Int32} {cc : ByteArray}
theorem m_Pc_blind {as : List Value} {w : mW} : FrameBlind (m_Pc ad aC dC dI base XL XS as w) := by
  intro a U g mk h
  obtain ⟨h1, h2, h3, h4, h5⟩ := h
  exact ⟨h1, h2.call g mk a, h3, h4, h5⟩
/-- behind a call -/
theorem m_after {K : mK} {H : Heap} {locs : List Loc} {ce sl mc' ms' n pc : Nat} {ls : Array Slot} {st0 r : List Value} {a : Array Value} (hr : va_Run p l e R s m args below meth c H locs ce sl mc' ms' (F0 m pc ls st0) (r.map (m_tr ad)) (m_Qc ad aC dC dI base K n a) (fun q => base ≤ q))
    (hS : va_S (fun q => base ≤ q) s.heap H locs) (hbs : base ≤ s.heap.size)
    (kk : ∀ (rv : Option Value) (w : mW) (H1 : Heap) (locs1 : List Loc), K rv w → m_Hp ad aC dC dI w H1 → w.1.length = n → w.1.length ≤ 1000 → va_S (fun q => base ≤ q) s.heap H1 locs1 → W p l e R s m args below meth c H1 locs1 (ce + mc') (sl + ms') QT (F0 m (pc + 3) ls ((m_push rv r).map (m_tr ad)))) :
    W p l e R s m args below meth c H locs ce sl QT (F0 m pc ls st0) := by
  intro T hT X
  obtain ⟨v, st₀, t, T', L, h0, X', hL, e1, e2, ⟨rv, w, hK, hv, hw, hn, hl, hq⟩, st⟩ := hr T hT X
  have hv : v = rv.map (m_tr ad) := by
    have := hv
    simp only [Outcome.returned.injEq] at this
    exact this
  subst hv
  have hsz : s.heap.size ≤ T'.heap.size := X'.same.2.1
  have key := kk rv w T'.heap (locs ++ L) hK (by rw [e1]; exact hw) hn hl
    ⟨hsz, fun q h1 h2 => by rw [e1, hq q (by omega), h0]; exact hS.2.1 q h1 h2, fun q hq2 => by
      rcases List.mem_append.mp hq2 with h | h
      · exact hS.2.2 q h
      · exact hL q h⟩
  obtain ⟨t2, a1, b1⟩ := key T' rfl X'
  refine ⟨t2, st t2 ?_, b1⟩
  have he : ((rv.map (m_tr ad)).toList ++ r.map (m_tr ad)) = (m_push rv r).map (m_tr ad) := by cases rv <;> rfl
  show Steps p.tables e below (T'.setTop { F0 m pc ls st0 with pc := pc + 3, stack := (rv.map (m_tr ad)).toList ++ r.map (m_tr ad) }) t2
  rw [he]
  exact a1
end MCALL
theorem m_wl_len {ad : Nat → Nat} {aC : FieldType → ClassId} {I : Nat → Nat → Int32} {L : Nat → Nat → Int64} : ∀ (sh : List mS) (k0 : Nat), (m_wl ad aC I L k0 sh).length = sh.length
  | [], k0 => rfl
  | x :: r, k0 => by simp [m_wl, m_wl_len r (k0 + 1)]
def m_nk (ci j : Nat) : Option (Option Nat) := match m_ty ci j with
  | .object _ => some none
  | .array _ => some none
  | _ => none
theorem m_nf_get : ∀ (ci j0 n j : Nat), j < n → (m_nf ci j0 n)[j]? = some (m_nk ci (j0 + j))
  | ci, j0, 0, j, h => by omega
  | ci, j0, n + 1, 0, h => by simp only [m_nf, List.getElem?_cons_zero]; rfl
  | ci, j0, n + 1, j + 1, h => by
    simp only [m_nf, List.getElem?_cons_succ]
    rw [m_nf_get ci (j0 + 1) n j (by omega), show j0 + 1 + j = j0 + (j + 1) by omega]
def m_tyk : FieldType → Bool
  | .float => false
  | .double => false
  | _ => true
theorem m_tykok : ∀ ci, ci < 10 → ∀ b, b < m_NN ci → m_tyk (m_ty ci b) = true := by decide +kernel
theorem m_newf {ad : Nat → Nat} {I : Nat → Nat → Int32} {L : Nat → Nat → Int64} {a k : Nat} (h9 : a ≤ 9) (hI : ∀ j, I k j = 0) (hL : ∀ j, L k j = 0) : ∀ j, j < m_NN a → defaultValue (m_ty a j) = vp_V (m_fs ad I L a k 0 (m_nf a 0 (m_NN a))) j := by
  intro j hj
  have h1 := m_tykok a (by omega) j hj
  simp only [vp_V, List.getD_eq_getElem?_getD, m_fs_get, m_nf_get a 0 (m_NN a) j hj, Nat.zero_add, Option.map_some, Option.getD_some]
  unfold m_nk m_fv m_isL
  cases hty : m_ty a j <;> simp_all [defaultValue, m_tr, m_tyk]
/-- where a new cell is -/
theorem m_newq {ad : Nat → Nat} {aC : FieldType → ClassId} {dC : Nat → ClassId} {dI : Nat → Nat → Nat} {I : Nat → Nat → Int32} {L : Nat → Nat → Int64} {sh : List mS} {base q : Nat} {x : va_E} {H1 : Heap} (had : ∀ k, k < 1000000 → ad k = base + k) (hlen : sh.length ≤ 1000)
    (hP1 : va_P (dC, dI) vwCl (m_wl ad aC I L 0 sh ++ [(q, x)]) H1) (hD1 : va_D (fun q => base ≤ q) (m_wl ad aC I L 0 sh ++ [(q, x)])) (hz : H1.size ≤ base + sh.length + 1) : q = base + sh.length := by
  have hl := m_wl_len (ad := ad) (aC := aC) (I := I) (L := L) sh 0
  have hat : (m_wl ad aC I L 0 sh ++ [(q, x)])[sh.length]? = some (q, x) := by
    rw [List.getElem?_append_right (by omega), hl, Nat.sub_self]; rfl
  have h1 := (hP1 _ _ hat).lt
  have h2 := hD1.2 _ _ hat
  simp only at h1 h2
  have h3 : ∀ j, j < sh.length → q ≠ base + j := by
    intro j hj hq
    obtain ⟨y, hy⟩ : ∃ y, sh[j]? = some y := ⟨_, List.getElem?_eq_getElem hj⟩
    have hj2 : (m_wl ad aC I L 0 sh ++ [(q, x)])[j]? = some (ad j, m_ve ad aC I L j y) := by
      rw [List.getElem?_append_left (by omega), m_wl_get, hy]; simp
    have := hD1.1 _ _ _ _ hj2 hat (by rw [had j (by omega)]; exact hq.symm)
    omega
  by_cases hq : q - base < sh.length
  · exact absurd (by omega) (h3 (q - base) hq)
  · omega
theorem m_RA {s : State} {cA cB : ClassId} {ty : FieldType} (h6 : m_t6 ty = true) (h1 : va_RA s cA ty) (h2 : va_RA s cB ty) : cA = cB := by
  cases ty <;> first | (cases h6; done) | exact Option.some.inj (h1.symm.trans h2)
def m_av (ty : FieldType) (f : Nat → Int32) (g : Nat → Int64) : (Nat → Int32) ⊕ (Nat → Int64) ⊕ (Nat → UInt32) ⊕ (Nat → UInt64) ⊕ (Nat → Option Nat) := match ty with
  | .long => .inr (.inl g)
  | _ => .inl f
theorem m_newa0 (n : Nat) {I : Nat → Nat → Int32} {L : Nat → Nat → Int64} {k : Nat} (hI : I k = fun _ => 0) (hL : L k = fun _ => 0) {ty : FieldType} (h6 : m_t6 ty = true) : ∀ cA : ClassId, vp_cell cA (n, m_av ty (I k) (L k)) = arrV cA n (fun _ => defaultValue ty) := by
  intro cA
  rw [hI, hL]
  cases ty <;> first | (cases h6; done) | rfl
set_option maxHeartbeats 4000000 in
theorem m_step_call {p : Program} {l : Launch} {e : Env} {R : Room} {s : State} {m : MethodId} {args : Array Value} {below : List Frame} {meth : Method} {c : Code} {QT : State → Prop} {ad : Nat → Nat} {aC : FieldType → ClassId} {dC : Nat → ClassId} {dI : Nat → Nat → Nat} {base XL nL oi d : Nat} {XS : Nat → Int32} {cc : ByteArray}
    (Cx : m_Cx p R s m args c cc nL oi ad aC dC dI base XL XS d) {C : mC} {rt : Option FieldType} {kd mc ms : Nat} {QM : mK} {pc nx a b : Nat} {i : Instr} {v : Value} {sw : List (Int32 × Nat)} {lo : List (Option Value)} {st : List Value} {sh : List mS} {I : Nat → Nat → Int32} {L : Nat → Nat → Int64} {ce sl : Nat}
    (hC : ∀ id as w K, C id as w K → m_Met l ad aC dC dI base XL XS d id as w K) (hRR : mc ≤ R.cells ∧ ms ≤ R.slots)
    (hd : decode cc pc = .ok (i, m_len i (nx - pc))) (hnx : nx = pc + m_len i (nx - pc)) (hX : m_okX oi (pc, i, nx, a, b, v, sw) = true)
    (hF : m_G XL XS C rt kd mc ms QM (m_PW p l e R s m args below meth c QT nL ad aC dC dI base) i nx a b v sw lo st sh I L ce sl)
    (hcase : m_grp i = 2) :
    m_PW p l e R s m args below meth c QT nL ad aC dC dI base (pc, lo, st, (sh, I, L), ce, sl) := by
  obtain ⟨hx, hb, hml, hown, hts, hctx, had, hRf, hRl⟩ := Cx
  obtain ⟨hK, hNe, ⟨hXs, hXb⟩, hStr, -, -, -, hbs⟩ := id hctx
  intro H locs ls hP hsz hlen hS hl
  have hD := m_wl_D (ad := ad) (aC := aC) (I := I) (L := L) had hlen
  have hA : ∀ q, s.heap.size ≤ q → base ≤ q := fun q h => Nat.le_trans hbs h
  have S : CallFix p m c cc nL s args m_ws (m_RR oi) := ⟨hx, hb, hml, hown, hts⟩
  have hls : ls.size = nL := hl.1.1
  refine m_sized fun hz1 hz2 => ?_
  -- the heap's size, exactly
  have hHz : H.size = base + sh.length := by
    have h2 : H.size ≤ base + sh.length := by omega
    by_cases h0 : sh.length = 0
    · omega
    · have hk : sh.length - 1 < sh.length := by omega
      obtain ⟨x, hxx⟩ : ∃ x, sh[sh.length - 1]? = some x := ⟨_, List.getElem?_eq_getElem hk⟩
      have h3 : (m_wl ad aC I L 0 sh)[sh.length - 1]? = some (ad (sh.length - 1), m_ve ad aC I L (sh.length - 1) x) := by rw [m_wl_get, hxx]; simp
      have h4 := (hP _ _ h3).lt
      have h5 := had (sh.length - 1) (by omega)
      simp only [h5] at h4
      omega
  have pre : ∀ (as : List Value) (U : State), U.heap = H → s.WarmedH U.vm → m_Pc ad aC dC dI base XL XS as (sh, I, L) (as.map (m_tr ad)).toArray U := by
    intro as U hU hW
    refine ⟨rfl, hctx.move hW (fun q hq => by rw [hU]; exact hS.2.1 q (by omega) (by omega)) (by rw [hU]; omega), by rw [hU]; exact hP, by rw [hU]; exact hHz, hlen⟩
  have room : ∀ (id : Nat) (M : mM), m_Mok M → (m_rm d id).frames + 1 ≤ R.frames ∧ 8 + (M.2.2.1 + 11) + (m_rm d id).locals ≤ R.locals := by
    intro id M hM
    have := hM.2.2.2.1.2.2.2.2.2.1
    refine ⟨hRf, ?_⟩
    show 8 + (M.2.2.1 + 11) + 64 * d ≤ R.locals
    omega
  cases i with
  | invokevirtual n =>
    have hd : decode cc pc = .ok (.invokevirtual n, 3) := hd
    have hnx : nx = pc + 3 := hnx
    subst hnx
    have hm := of_decide_eq_true hX
    simp only [m_G] at hF
    split at hF
    · rename_i k as r hpop
      split at hF
      · rename_i ci fs hk
        split at hF
        · rename_i hg
          obtain ⟨hg1, hg⟩ := m_and hg
          obtain ⟨hgs, hg⟩ := m_and hg
          obtain ⟨hg2, hg⟩ := m_and hg
          obtain ⟨hg3, hg4⟩ := m_and hg
          obtain ⟨hst, hna⟩ := m_pop_eq _ _ _ _ hpop
          have hci := m_beq hg1
          have hb256 := m_lkM_b _ hm
          obtain ⟨M, hM, hMok, hkd, hna2, hoi⟩ := m_sg_of (id := a) (n := b) (kd := 0) hgs hb256 (by omega)
          have hY := m_tabY a M hM
          have hmet := hC _ _ _ _ hF M hM
          obtain ⟨w1, w2, w3, ⟨w4, w5, w6, w7, w8, w9, w10, w11⟩, w12⟩ := id hMok
          rw [hkd] at w3 w8
          have hl2 := hts _ (m_lkM_ok _ hm)
          rw [hY] at hl2
          have cw : CallW R s args (m_RR oi) M.1.cls n M.1 M.2.1 M.2.2.1 M.2.2.2.1 (Cond.code M.1 M.2.1 M.2.2.1 M.2.2.2.1 :: m_ws) (m_rm d a) (m_cost a).1 (m_cost a).2 as.length := by
            refine ⟨callB_of as.length hts (m_good2 hMok) rfl rfl rfl (hts _ w2) hl2 ⟨w6, w7, ?_⟩ (room a M hMok), hts _ w3.1, hts _ w3.2⟩
            rw [Option.map_eq_some_iff] at w8 ⊢
            obtain ⟨dd, e1, e2⟩ := w8
            refine ⟨dd, e1, ?_⟩
            simp only [List.length_cons] at hna
            rw [if_neg (by omega)] at e2
            omega
          have hst2 : st.map (m_tr ad) = (as.map (m_tr ad)).reverse ++ .ref (ad k) :: r.map (m_tr ad) := by
            rw [hst]; simp [m_tr]
          rw [hst2]
          have he := m_sh (ad := ad) (aC := aC) (I := I) (L := L) hk
          have hc9 : ci ≤ 9 := by rw [hci, ← hoi]; exact w11
          refine m_after (va_runV (C := M.1.cls) (As := as.map (m_tr ad)) (rest := r.map (m_tr ad)) (b := ad k) S hmet cw ⟨m_Pc_blind, ?_, fun U hU hW => pre (.ref k :: as) U hU hW⟩ rfl (by simp) hls rfl (lv_room (by rw [m_cat_eq]; exact Nat.le_of_ble_eq_true hg2)) hd ⟨Nat.le_trans (Nat.le_of_ble_eq_true hg3) hRR.1, Nat.le_trans (Nat.le_of_ble_eq_true hg4) hRR.2⟩) hS hbs (fun rv w H1 locs1 hKr hw hn1 hn2 hS1 => ?_)
          · have := va_recv hK hP (m_cl ci hc9) he
            rw [w5, hoi, ← hci]
            exact this
          · obtain ⟨sh', I', L'⟩ := w
            exact hKr H1 locs1 ls hw (by simp only at hn1; rw [hn1]; omega) hn2 hS1 hl
        · exact hF.elim
      · exact hF.elim
    · exact hF.elim
  | invokestatic n =>
    have hd : decode cc pc = .ok (.invokestatic n, 3) := hd
    have hnx : nx = pc + 3 := hnx
    subst hnx
    have hm := of_decide_eq_true hX
    simp only [m_G] at hF
    split at hF
    · rename_i as r hpop
      split at hF
      · rename_i hg
        obtain ⟨hgs, hg⟩ := m_and hg
        obtain ⟨hg2, hg⟩ := m_and hg
        obtain ⟨hg3, hg4⟩ := m_and hg
        obtain ⟨hst, hna⟩ := m_pop_eq _ _ _ _ hpop
        have hb256 := m_lkM_b _ hm
        obtain ⟨M, hM, hMok, hkd, hna2, hoi⟩ := m_sg_of (id := a) (n := b) (kd := 1) hgs hb256 (by omega)
        have hY := m_tabY a M hM
        have hmet := hC _ _ _ _ hF M hM
        obtain ⟨w1, w2, w3, ⟨w4, w5, w6, w7, w8, w9, w10, w11⟩, w12⟩ := id hMok
        rw [hkd] at w3 w8
        have hl2 := hts _ (m_lkM_ok _ hm)
        rw [hY] at hl2
        have cw : CallB R s args (m_RR oi) n M.1 M.2.1 M.2.2.1 M.2.2.2.1 (Cond.code M.1 M.2.1 M.2.2.1 M.2.2.2.1 :: m_ws) (m_rm d a) (m_cost a).1 (m_cost a).2 as.length ∧ (Cond.static M.1).before args s = true := by
          refine ⟨callB_of as.length hts (m_good2 hMok) rfl rfl rfl (hts _ w2) hl2 ⟨w6, w7, ?_⟩ (room a M hMok), hts _ w3⟩
          rw [Option.map_eq_some_iff] at w8 ⊢
          obtain ⟨dd, e1, e2⟩ := w8
          refine ⟨dd, e1, ?_⟩
          rw [if_pos rfl] at e2
          omega
        have hst2 : st.map (m_tr ad) = (as.map (m_tr ad)).reverse ++ r.map (m_tr ad) := by
          rw [hst]; simp
        rw [hst2]
        refine m_after (va_runS (As := as.map (m_tr ad)) (rest := r.map (m_tr ad)) S hmet cw ⟨m_Pc_blind, fun U hU hW => pre as U hU hW⟩ rfl (by simp) hls rfl (lv_room (by rw [m_cat_eq]; exact Nat.le_of_ble_eq_true hg2)) hd ⟨Nat.le_trans (Nat.le_of_ble_eq_true hg3) hRR.1, Nat.le_trans (Nat.le_of_ble_eq_true hg4) hRR.2⟩) hS hbs (fun rv w H1 locs1 hKr hw hn1 hn2 hS1 => ?_)
        obtain ⟨sh', I', L'⟩ := w
        exact hKr H1 locs1 ls hw (by simp only at hn1; rw [hn1]; omega) hn2 hS1 hl
      · exact hF.elim
    · exact hF.elim
  | invokespecial n =>
    have hd : decode cc pc = .ok (.invokespecial n, 3) := hd
    have hnx : nx = pc + 3 := hnx
    subst hnx
    simp only [m_G] at hF
    split at hF
    · rename_i h999
      have h999 := m_beq h999
      subst h999
      split at hF
      · rename_i k r
        split at hF
        · rename_i hg
          have hm : (oi, n, 999, b) ∈ m_lkM := by
            rcases (Bool.or_eq_true _ _).mp hX with h | h
            · exact of_decide_eq_true h
            · exact absurd rfl (m_lkMN_999 _ (of_decide_eq_true h))
          have hg := Nat.le_of_ble_eq_true hg
          have hroom := lv_room (m := m) (pc := pc) (ls := ls) (rest := List.map (m_tr ad) (Value.ref k :: r)) (st := r.map (m_tr ad)) (by rw [m_cat_eq ad r]; exact hg)
          exact W.objInit hx hb hown (hts _ (m_lkM_ok _ hm)) (hts _ m_obj.1) (hts _ m_obj.2) rfl (by rw [hml]; exact hls) (rest := r.map (m_tr ad)) rfl hd (by omega) (by omega) (hF H locs ls hP hsz hlen hS hl)
        · exact hF.elim
      · exact hF.elim
    · rename_i h999
      split at hF
      · rename_i k as r hpop
        split at hF
        · rename_i hg
          obtain ⟨hgs, hg⟩ := m_and hg
          obtain ⟨hg2, hg⟩ := m_and hg
          obtain ⟨hg3, hg4⟩ := m_and hg
          obtain ⟨hst, hna⟩ := m_pop_eq _ _ _ _ hpop
          have hb256 : b < 256 := by
            rcases (Bool.or_eq_true _ _).mp hX with h | h
            · exact m_lkM_b _ (of_decide_eq_true h)
            · exact m_lkMN_b _ (of_decide_eq_true h)
          obtain ⟨M, hM, hMok, hkd, hna2, hoi⟩ := m_sg_of (id := a) (n := b) (kd := 2) hgs hb256 (by omega)
          have hY := m_tabY a M hM
          have hmet := hC _ _ _ _ hF M hM
          obtain ⟨w1, w2, w3, ⟨w4, w5, w6, w7, w8, w9, w10, w11⟩, w12⟩ := id hMok
          rw [hkd] at w3 w8
          obtain ⟨w31, w32, w33⟩ := w3
          have hdsc : M.1.cls ≠ "java/lang/invoke/MethodHandle" ∧ M.1.cls ≠ "java/lang/invoke/VarHandle" ∧ (parseMethodDescriptor M.1.desc).map (fun d => d.parameters.length) = some as.length := by
            refine ⟨w6, w7, ?_⟩
            rw [Option.map_eq_some_iff] at w8 ⊢
            obtain ⟨dd, e1, e2⟩ := w8
            refine ⟨dd, e1, ?_⟩
            simp only [List.length_cons] at hna
            rw [if_neg (by omega)] at e2
            omega
          have hst2 : st.map (m_tr ad) = (as.map (m_tr ad)).reverse ++ .ref (ad k) :: r.map (m_tr ad) := by
            rw [hst]; simp [m_tr]
          rw [hst2]
          have hgd := m_good2 hMok
          have hrm := room a M hMok
          obtain ⟨y, bts, mxl, rt', kd', oi', na', cd'⟩ := M
          simp only at w33 hmet hgd hrm hdsc w31 w32 w2 hY
          subst w33
          rcases (Bool.or_eq_true _ _).mp hX with h | h
          · have hm := of_decide_eq_true h
            have hl2 := hts _ (m_lkM_ok _ hm)
            simp only [hY] at hl2
            refine m_after (va_runI (As := as.map (m_tr ad)) (rest := r.map (m_tr ad)) (b := ad k) S hmet ⟨callB_of as.length hts hgd rfl rfl rfl (hts _ w2) hl2 hdsc hrm, w32, hts _ w31⟩ ⟨m_Pc_blind, fun U hU hW => pre (.ref k :: as) U hU hW⟩ rfl (by simp) hls rfl (lv_room (by rw [m_cat_eq]; exact Nat.le_of_ble_eq_true hg2)) hd ⟨Nat.le_trans (Nat.le_of_ble_eq_true hg3) hRR.1, Nat.le_trans (Nat.le_of_ble_eq_true hg4) hRR.2⟩) hS hbs (fun rv w H1 locs1 hKr hw hn1 hn2 hS1 => ?_)
            obtain ⟨sh', I', L'⟩ := w
            exact hKr H1 locs1 ls hw (by simp only at hn1; rw [hn1]; omega) hn2 hS1 hl
          · have hm := of_decide_eq_true h
            have hl2 := hNe _ (List.mem_filter.mpr ⟨m_lkMN_ok _ hm, rfl⟩)
            simp only [hY] at hl2
            refine m_after (va_runIN (As := as.map (m_tr ad)) (rest := r.map (m_tr ad)) (b := ad k) S hmet ⟨va_cnB as.length hts hgd rfl rfl rfl hl2 (hts _ w2) hdsc hrm, w32, hts _ w31⟩ ⟨m_Pc_blind, fun U hU hW => pre (.ref k :: as) U hU hW⟩ rfl (by simp) hls rfl (lv_room (by rw [m_cat_eq]; exact Nat.le_of_ble_eq_true hg2)) hd ⟨Nat.le_trans (Nat.le_of_ble_eq_true hg3) hRR.1, Nat.le_trans (Nat.le_of_ble_eq_true hg4) hRR.2⟩) hS hbs (fun rv w H1 locs1 hKr hw hn1 hn2 hS1 => ?_)
            obtain ⟨sh', I', L'⟩ := w
            exact hKr H1 locs1 ls hw (by simp only at hn1; rw [hn1]; omega) hn2 hS1 hl
        · exact hF.elim
      · exact hF.elim
  | new n =>
    have hd : decode cc pc = .ok (.new n, 3) := hd
    have hnx : nx = pc + 3 := hnx
    subst hnx
    have hm := of_decide_eq_true hX
    have h9 := m_lkC_in _ hm
    obtain ⟨k1, k2, k3⟩ := m_lkC_ok _ hm
    simp only [m_G] at hF
    split at hF
    · rename_i hg
      obtain ⟨hg1, hg⟩ := m_and hg
      obtain ⟨hg2, hg3⟩ := m_and hg
      have hg1 : sh.length < 1000 := Nat.le_of_ble_eq_true hg1
      refine va_new (D := (dC, dI)) (Ts := m_ws) (ci := a) (fs := m_fs ad (va_up I sh.length (fun _ => 0)) (va_up L sh.length (fun _ => 0)) a sh.length 0 (m_nf a 0 (m_NN a))) hx hb hts (m_lay a h9) (m_ty a) (m_tyok a h9) hown (hts _ k1) (hts _ k2) (hts _ k3) hK hP hD hS hA (m_cl a h9) (m_newf h9 (fun j => by simp [va_up]) (fun j => by simp [va_up])) (Nat.le_trans (Nat.le_of_ble_eq_true hg2) hRR.1) (Nat.le_trans (Nat.le_of_ble_eq_true hg3) hRR.2) hd (fun q H1 hP1 hD1 hS1 => ?_)
      refine m_sized fun z1 z2 => ?_
      have hq := m_newq had hlen hP1 hD1 (by omega)
      have hq2 : q = ad sh.length := by rw [hq, had _ (by omega)]
      subst hq2
      have hap := m_wl_app (ad := ad) (aC := aC) (I := I) (I' := va_up I sh.length (fun _ => 0)) (L := L) (L' := va_up L sh.length (fun _ => 0)) (sh := sh) (e := .inr (a, m_nf a 0 (m_NN a))) (fun q hq => by simp [va_up, Nat.ne_of_lt hq]) (fun q hq => by simp [va_up, Nat.ne_of_lt hq])
      exact hF H1 locs ls (by rw [hap]; exact hP1) (by simp only [List.length_append, List.length_cons, List.length_nil]; omega) (by simp only [List.length_append, List.length_cons, List.length_nil]; omega) hS1 hl
    · exact hF.elim
  | newarray ty =>
    have hd : decode cc pc = .ok (.newarray ty, 2) := hd
    have hnx : nx = pc + 2 := hnx
    subst hnx
    simp only [m_G] at hF
    split at hF
    · rename_i n r
      split at hF
      · rename_i hg
        obtain ⟨hg0, hg⟩ := m_and hg
        obtain ⟨hg1, hg⟩ := m_and hg
        obtain ⟨hg2, hg⟩ := m_and hg
        obtain ⟨hg3, hg4⟩ := m_and hg
        have hg1 : sh.length < 1000 := Nat.le_of_ble_eq_true hg1
        have hg4 : a ≤ 100000 := Nat.le_of_ble_eq_true hg4
        obtain ⟨⟨hn0, hna⟩, hF⟩ := hF
        have hty : newarray.typeOf ty = m_aty ty := by cases ty <;> rfl
        have hac : Cond.arrayClass (m_aty ty) ∈ m_ws := by
          cases ty <;> first | (cases hg0; done) | exact m_ac_boolean | exact m_ac_char | exact m_ac_byte | exact m_ac_short | exact m_ac_int | exact m_ac_long
        refine va_newa (D := (dC, dI)) (ty := m_aty ty) (N' := a) (a0 := (a, m_av (m_aty ty) ((va_up I sh.length (fun _ => 0)) sh.length) ((va_up L sh.length (fun _ => 0)) sh.length))) hx hb (by rw [hty]; exact hts _ hac) hty hK hP hD hS hA (m_newa0 a (I := va_up I sh.length (fun _ => 0)) (L := va_up L sh.length (fun _ => 0)) (k := sh.length) (by simp [va_up]) (by simp [va_up]) hg0) hn0 hna ?_ (Nat.le_trans (Nat.le_of_ble_eq_true hg2) hRR.1) (Nat.le_trans (Nat.le_of_ble_eq_true hg3) hRR.2) hd (fun q cA H1 hK1 hP1 hD1 hS1 => ?_)
        · have : componentBytes (m_aty ty) ≤ 8 := by cases ty <;> decide
          have := Nat.mul_le_mul hg4 this
          omega
        · refine m_sized fun z1 z2 => ?_
          have hq := m_newq had hlen hP1 hD1 (by omega)
          have hq2 : q = ad sh.length := by rw [hq, had _ (by omega)]
          subst hq2
          have hcA : cA = aC (m_aty ty) := by
            obtain ⟨t0, ht0⟩ := m_tys_of aC (m_aty ty) hg0
            have h1 := (hK.2 t0 _ ht0).2
            have h2 := (hK1.2 (m_tys aC).length (cA, m_aty ty) (by rw [List.getElem?_append_right (Nat.le_refl _), Nat.sub_self]; rfl)).2
            exact m_RA hg0 h2 h1
          subst hcA
          have hap := m_wl_app (ad := ad) (aC := aC) (I := I) (I' := va_up I sh.length (fun _ => 0)) (L := L) (L' := va_up L sh.length (fun _ => 0)) (sh := sh) (e := .inl (m_aty ty, a)) (fun q hq => by simp [va_up, Nat.ne_of_lt hq]) (fun q hq => by simp [va_up, Nat.ne_of_lt hq])
          exact hF H1 locs ls (by rw [hap]; exact hP1) (by simp only [List.length_append, List.length_cons, List.length_nil]; omega) (by simp only [List.length_append, List.length_cons, List.length_nil]; omega) hS1 hl
      · exact hF.elim
    · exact hF.elim
  | _ => simp [m_grp] at hcase
