/-! ===== a step of the small machine is a step of the machine ===== -/
theorem m_nlt {x y : Int32} : ¬ x < y ↔ y ≤ x := by rw [Int32.lt_iff_toInt_lt, Int32.le_iff_toInt_le]; omega
theorem m_nle {x y : Int32} : ¬ x ≤ y ↔ y < x := by rw [Int32.lt_iff_toInt_lt, Int32.le_iff_toInt_le]; omega
theorem m_lsw_ok {x : Int32} {pc a : Nat} {d : Int} {K : Nat → Prop} (hd : (pc : Int) + d = (a : Int)) : ∀ (ps : List (Int × Int)), (ps.all (fun z => decide (0 ≤ (pc : Int) + z.2) && decide ((Int32.ofInt z.1).toInt = z.1)) = true) → m_sw (ps.map (fun z => (Int32.ofInt z.1, ((pc : Int) + z.2).toNat))) a x K → ∃ (off : Int) (tgt : Nat), Op.lookupswitch.offset ps d x.toInt = off ∧ (pc : Int) + off = (tgt : Int) ∧ K tgt
  | [], _, h => ⟨d, a, rfl, hd, h⟩
  | z :: r, hz, h => by
    obtain ⟨k, o⟩ := z
    simp only [List.all_cons, Bool.and_eq_true, decide_eq_true_eq] at hz
    obtain ⟨⟨h1, h2⟩, h3⟩ := hz
    obtain ⟨g1, g2⟩ := h
    by_cases hx : x = Int32.ofInt k
    · refine ⟨o, ((pc : Int) + o).toNat, ?_, by omega, g1 hx⟩
      rw [Op.lookupswitch.offset_cons, if_pos (by rw [hx]; exact h2.symm)]
    · obtain ⟨off, tgt, q1, q2, q3⟩ := m_lsw_ok hd r h3 (g2 hx)
      refine ⟨off, tgt, ?_, q2, q3⟩
      rw [Op.lookupswitch.offset_cons, if_neg]
      · exact q1
      · intro q
        exact hx (Int32.toInt_inj.mp (by rw [h2]; exact q.symm))
theorem m_tsw_ok {x : Int32} {pc a : Nat} {K : Nat → Prop} : ∀ (offs : List Int) (k : Nat), k + offs.length < 2000 → (offs.all (fun z => decide (0 ≤ (pc : Int) + z)) = true) → m_sw (m_tsw pc (k : Int) offs) a x K →
    (∀ j : Nat, j < offs.length → x.toInt = (k : Int) + j → ∃ (off : Int) (tgt : Nat), offs[j]? = some off ∧ (pc : Int) + off = (tgt : Int) ∧ K tgt) ∧ ((x.toInt < (k : Int) ∨ (k : Int) + offs.length ≤ x.toInt) → K a)
  | [], k, hk, _, h => ⟨fun j hj => by simp at hj, fun _ => h⟩
  | o :: r, k, hk, hz, h => by
    simp only [List.all_cons, Bool.and_eq_true, decide_eq_true_eq] at hz
    simp only [List.length_cons] at hk
    obtain ⟨g1, g2⟩ := h
    have hke : (Int32.ofInt (k : Int)).toInt = (k : Int) := by
      have := nI_toInt (n := k) (by omega)
      exact this
    have ih : ¬ x = Int32.ofInt (k : Int) → _ := fun hx => m_tsw_ok r (k + 1) (by omega) hz.2 (by have := g2 hx; rwa [show ((k : Int) + 1) = ((k + 1 : Nat) : Int) by omega] at this)
    refine ⟨fun j hj hx => ?_, fun hx => ?_⟩
    · by_cases hj0 : j = 0
      · subst hj0
        refine ⟨o, ((pc : Int) + o).toNat, rfl, by omega, g1 (Int32.toInt_inj.mp ?_)⟩
        rw [hke, hx]; simp
      · have hne : ¬ x = Int32.ofInt (k : Int) := fun q => by rw [q, hke] at hx; omega
        obtain ⟨off, tgt, q1, q2, q3⟩ := (ih hne).1 (j - 1) (by simp only [List.length_cons] at hj; omega) (by rw [hx]; omega)
        refine ⟨off, tgt, ?_, q2, q3⟩
        rw [show j = (j - 1) + 1 by omega, List.getElem?_cons_succ]
        exact q1
    · have hne : ¬ x = Int32.ofInt (k : Int) := fun q => by rw [q, hke] at hx; simp only [List.length_cons] at hx; omega
      refine (ih hne).2 ?_
      simp only [List.length_cons] at hx
      have hne2 : ¬ x.toInt = (k : Int) := fun q => hne (Int32.toInt_inj.mp (by rw [hke]; exact q))
      omega
section MSIM
variable {p : Program} {l : Launch} {e : Env} {R : Room} {s : State} {m : MethodId} {args : Array Value} {below : List Frame} {meth : Method} {c : Code} {QT : State → Prop}
variable {H : Heap} {locs : List Loc} {cells slots : Nat} {Q : State → Prop}
/-- the heap has no more cells than were counted -/
theorem m_sized {g : JFrame} (h : s.heap.size ≤ H.size → H.size ≤ s.heap.size + cells → W p l e R s m args below meth c H locs cells slots Q g) : W p l e R s m args below meth c H locs cells slots Q g := by
  intro T hT X
  have hs := X.same
  have h2 : s.heap.size ≤ T.heap.size := hs.2.1
  have h3 : T.heap.size ≤ s.heap.size + cells := hs.2.2.1
  rw [hT] at h2 h3
  exact h h2 h3 T hT X
end MSIM
/-- the world at a heap -/
def m_Hp (ad : Nat → Nat) (aC : FieldType → ClassId) (dC : Nat → ClassId) (dI : Nat → Nat → Nat) (w : mW) (H : Heap) : Prop := va_P (dC, dI) vwCl (m_wl ad aC w.2.1 w.2.2 0 w.1) H
/-- a method's start, its end -/
def m_Pc (ad : Nat → Nat) (aC : FieldType → ClassId) (dC : Nat → ClassId) (dI : Nat → Nat → Nat) (base XL : Nat) (XS : Nat → Int32) (as : List Value) (w : mW) : Array Value → State → Prop := fun v U => v = (as.map (m_tr ad)).toArray ∧ m_Ctx ad aC dC dI base XL XS U ∧ m_Hp ad aC dC dI w U.heap ∧ U.heap.size = base + w.1.length ∧ w.1.length ≤ 1000
def m_Qc (ad : Nat → Nat) (aC : FieldType → ClassId) (dC : Nat → ClassId) (dI : Nat → Nat → Nat) (base : Nat) (K : mK) (n : Nat) : Array Value → State → Outcome → State → Prop := fun _ st oc t => ∃ (r : Option Value) (w : mW), K r w ∧ oc = .returned (r.map (m_tr ad)) ∧ m_Hp ad aC dC dI w t.heap ∧ w.1.length = n ∧ w.1.length ≤ 1000 ∧ ∀ q, q < base → t.heap[q]? = st.heap[q]?
def m_rm (d id : Nat) : Room := { frames := d, cells := (m_cost id).1, slots := (m_cost id).2, locals := 64 * d }
def m_Met (l : Launch) (ad : Nat → Nat) (aC : FieldType → ClassId) (dC : Nat → ClassId) (dI : Nat → Nat → Nat) (base XL : Nat) (XS : Nat → Int32) (d id : Nat) (as : List Value) (w : mW) (K : mK) : Prop :=
  ∀ M : mM, m_nth m_tab id = some M → Met l M.1 (Cond.code M.1 M.2.1 M.2.2.1 M.2.2.2.1 :: m_ws) (m_rm d id) (m_Pc ad aC dC dI base XL XS as w) (m_Qc ad aC dC dI base K (w.1.length + (m_cost id).1)) (m_cost id).1 (m_cost id).2 (fun q => base ≤ q)
/-- all that a method's walk stands on -/
def m_Cx (p : Program) (R : Room) (s : State) (m : MethodId) (args : Array Value) (c : Code) (cc : ByteArray) (nL oi : Nat) (ad : Nat → Nat) (aC : FieldType → ClassId) (dC : Nat → ClassId) (dI : Nat → Nat → Nat) (base XL : Nat) (XS : Nat → Int32) (d : Nat) : Prop :=
  p.tables.exec = Jvm.exec ∧ c.code = cc ∧ c.maxLocals = nL ∧ s.vm.findClass (m_RR oi) = some m.cls ∧ (∀ w ∈ m_ws, w.before args s = true) ∧ m_Ctx ad aC dC dI base XL XS s ∧ (∀ k, k < 1000000 → ad k = base + k) ∧ d + 1 ≤ R.frames ∧ 64 * d + 64 ≤ R.locals
def m_PW (p : Program) (l : Launch) (e : Env) (R : Room) (s : State) (m : MethodId) (args : Array Value) (below : List Frame) (meth : Method) (c : Code) (QT : State → Prop) (nL : Nat) (ad : Nat → Nat) (aC : FieldType → ClassId) (dC : Nat → ClassId) (dI : Nat → Nat → Nat) (base : Nat) : mT → Prop
  | (pc, lo, st, (sh, I, L), ce, sl) => ∀ (H : Heap) (locs : List Loc) (ls : Array Slot), va_P (dC, dI) vwCl (m_wl ad aC I L 0 sh) H → s.heap.size + ce = base + sh.length → sh.length ≤ 1000 → va_S (fun q => base ≤ q) s.heap H locs → m_lh ad ls nL lo → W p l e R s m args below meth c H locs ce sl QT (F0 m pc ls (st.map (m_tr ad)))
theorem m_okI_of {oi : Nat} {cc : ByteArray} {cd : mL} (h : m_okC oi cc cd = true) {pc : Nat} {q : mI} (hq : m_at cd pc = some q) : q.1 = pc ∧ decode cc q.1 = .ok (q.2.1, m_len q.2.1 (q.2.2.1 - q.1)) ∧ q.2.2.1 = q.1 + m_len q.2.1 (q.2.2.1 - q.1) ∧ m_okX oi q = true := by
  obtain ⟨⟨ch, h1, h2⟩, h3⟩ := m_at_mem cd pc q hq
  have h4 := List.all_eq_true.mp h ch h1
  have h5 := List.all_eq_true.mp h4 q h2
  simp only [m_okI, Bool.and_eq_true, decide_eq_true_eq] at h5
  exact ⟨h3, h5.1, Nat.eq_of_beq_eq_true h5.2.1, h5.2.2⟩
def m_grp : Instr → Nat
  | .ldc _ => 1 | .getfield _ => 1 | .putfield _ => 1 | .arraylength => 1 | .iaload => 1 | .baload => 1 | .caload => 1 | .saload => 1 | .laload => 1 | .iastore => 1 | .bastore => 1 | .castore => 1 | .sastore => 1 | .lastore => 1
  | .invokevirtual _ => 2 | .invokestatic _ => 2 | .invokespecial _ => 2 | .new _ => 2 | .newarray _ => 2
  | .ireturn => 3 | .lreturn => 3 | .return_ => 3
  | _ => 0
theorem m_and {a b : Bool} (h : (a && b) = true) : a = true ∧ b = true := by simpa using h
set_option maxHeartbeats 4000000 in
theorem m_step_stack {p : Program} {l : Launch} {e : Env} {R : Room} {s : State} {m : MethodId} {args : Array Value} {below : List Frame} {meth : Method} {c : Code} {QT : State → Prop} {ad : Nat → Nat} {aC : FieldType → ClassId} {dC : Nat → ClassId} {dI : Nat → Nat → Nat} {base XL nL oi d : Nat} {XS : Nat → Int32} {cc : ByteArray}
    (Cx : m_Cx p R s m args c cc nL oi ad aC dC dI base XL XS d) {C : mC} {rt : Option FieldType} {kd mc ms : Nat} {QM : mK} {pc nx a b : Nat} {i : Instr} {v : Value} {sw : List (Int32 × Nat)} {lo : List (Option Value)} {st : List Value} {sh : List mS} {I : Nat → Nat → Int32} {L : Nat → Nat → Int64} {ce sl : Nat}
    (hd : decode cc pc = .ok (i, m_len i (nx - pc))) (hnx : nx = pc + m_len i (nx - pc)) (hX : m_okX oi (pc, i, nx, a, b, v, sw) = true)
    (hF : m_G XL XS C rt kd mc ms QM (m_PW p l e R s m args below meth c QT nL ad aC dC dI base) i nx a b v sw lo st sh I L ce sl)
    (hcase : m_grp i = 0) :
    m_PW p l e R s m args below meth c QT nL ad aC dC dI base (pc, lo, st, (sh, I, L), ce, sl) := by
  obtain ⟨hx, hb, hml, hown, hts, hctx, had, hRf, hRl⟩ := Cx
  intro H locs ls hP hsz hlen hS hl
  cases i with
  | iconst n =>
    have hd : decode cc pc = .ok (.iconst n, 1) := hd
    have hnx : nx = pc + 1 := hnx
    subst hnx
    have hv := of_decide_eq_true hX
    subst hv
    exact lv_iconst hx hb hd rfl (hF H locs ls hP hsz hlen hS hl)
  | bipush n =>
    have hd : decode cc pc = .ok (.bipush n, 2) := hd
    have hnx : nx = pc + 2 := hnx
    subst hnx
    have hv := of_decide_eq_true hX
    subst hv
    exact lv_bipush hx hb hd rfl (hF H locs ls hP hsz hlen hS hl)
  | sipush n =>
    have hd : decode cc pc = .ok (.sipush n, 3) := hd
    have hnx : nx = pc + 3 := hnx
    subst hnx
    have hv := of_decide_eq_true hX
    subst hv
    exact lv_sipush hx hb hd rfl (hF H locs ls hP hsz hlen hS hl)
  | lconst n =>
    have hd : decode cc pc = .ok (.lconst n, 1) := hd
    have hnx : nx = pc + 1 := hnx
    subst hnx
    have hv := of_decide_eq_true hX
    subst hv
    exact lv_lconst hx hb hd rfl (hF H locs ls hP hsz hlen hS hl)
  | ldc2_w n =>
    have hd : decode cc pc = .ok (.ldc2_w n, 3) := hd
    have hnx : nx = pc + 3 := hnx
    subst hnx
    cases v with
    | long x =>
      have hm : (oi, n, x) ∈ m_lkK := of_decide_eq_true hX
      exact lv_ldc2 hx hb hown (hts _ (m_lkK_ok _ hm)) hd (hF H locs ls hP hsz hlen hS hl)
    | _ => cases hX
  | iload_n n =>
    have hd : decode cc pc = .ok (.iload_n n, 1) := hd
    have hnx : nx = pc + 1 := hnx
    subst hnx
    have hn : a = n.val := Nat.eq_of_beq_eq_true hX
    subst hn
    simp only [m_G] at hF
    split at hF
    · rename_i x hlo
      exact lv_iload_n hx hb hd rfl (m_lh_at hl hlo) (hF H locs ls hP hsz hlen hS hl)
    · exact hF.elim
  | iload n =>
    have hd : decode cc pc = .ok (.iload n, 2) := hd
    have hnx : nx = pc + 2 := hnx
    subst hnx
    have hn : a = n := Nat.eq_of_beq_eq_true hX
    subst hn
    simp only [m_G] at hF
    split at hF
    · rename_i x hlo
      exact lv_iload hx hb hd (m_lh_at hl hlo) (hF H locs ls hP hsz hlen hS hl)
    · exact hF.elim
  | lload_n n =>
    have hd : decode cc pc = .ok (.lload_n n, 1) := hd
    have hnx : nx = pc + 1 := hnx
    subst hnx
    have hn : a = n.val := Nat.eq_of_beq_eq_true hX
    subst hn
    simp only [m_G] at hF
    split at hF
    · rename_i x hlo
      exact lv_lload_n hx hb hd rfl (m_lh_at hl hlo) (hF H locs ls hP hsz hlen hS hl)
    · exact hF.elim
  | lload n =>
    have hd : decode cc pc = .ok (.lload n, 2) := hd
    have hnx : nx = pc + 2 := hnx
    subst hnx
    have hn : a = n := Nat.eq_of_beq_eq_true hX
    subst hn
    simp only [m_G] at hF
    split at hF
    · rename_i x hlo
      exact lv_lload hx hb hd (m_lh_at hl hlo) (hF H locs ls hP hsz hlen hS hl)
    · exact hF.elim
  | aload_n n =>
    have hd : decode cc pc = .ok (.aload_n n, 1) := hd
    have hnx : nx = pc + 1 := hnx
    subst hnx
    have hn : a = n.val := Nat.eq_of_beq_eq_true hX
    subst hn
    simp only [m_G] at hF
    split at hF
    · rename_i x hlo
      exact lv_aload_n hx hb hd rfl (m_lh_at hl hlo) (hF H locs ls hP hsz hlen hS hl)
    · exact hF.elim
  | aload n =>
    have hd : decode cc pc = .ok (.aload n, 2) := hd
    have hnx : nx = pc + 2 := hnx
    subst hnx
    have hn : a = n := Nat.eq_of_beq_eq_true hX
    subst hn
    simp only [m_G] at hF
    split at hF
    · rename_i x hlo
      exact lv_aload hx hb hd (m_lh_at hl hlo) (hF H locs ls hP hsz hlen hS hl)
    · exact hF.elim
  | istore_n n =>
    have hd : decode cc pc = .ok (.istore_n n, 1) := hd
    have hnx : nx = pc + 1 := hnx
    subst hnx
    have hn : a = n.val := Nat.eq_of_beq_eq_true hX
    subst hn
    simp only [m_G] at hF
    split at hF
    · rename_i x r
      split at hF
      · rename_i hlt
        have hlt : n.val < lo.length := Nat.le_of_ble_eq_true hlt
        exact lv_istore_n (lv := m_al ad 0 lo) hx hb hd rfl hl.1 (by rw [← hl.2]; exact hlt) rfl (fun ls' hl' => hF H locs ls' hP hsz hlen hS (m_lh_sto1 (v := .int x) hl.2 rfl hl'))
      · exact hF.elim
    · exact hF.elim
  | istore n =>
    have hd : decode cc pc = .ok (.istore n, 2) := hd
    have hnx : nx = pc + 2 := hnx
    subst hnx
    have hn : a = n := Nat.eq_of_beq_eq_true hX
    subst hn
    simp only [m_G] at hF
    split at hF
    · rename_i x r
      split at hF
      · rename_i hlt
        have hlt : a < lo.length := Nat.le_of_ble_eq_true hlt
        exact lv_istore (lv := m_al ad 0 lo) hx hb hd hl.1 (by rw [← hl.2]; exact hlt) rfl (fun ls' hl' => hF H locs ls' hP hsz hlen hS (m_lh_sto1 (v := .int x) hl.2 rfl hl'))
      · exact hF.elim
    · exact hF.elim
  | lstore_n n =>
    have hd : decode cc pc = .ok (.lstore_n n, 1) := hd
    have hnx : nx = pc + 1 := hnx
    subst hnx
    have hn : a = n.val := Nat.eq_of_beq_eq_true hX
    subst hn
    simp only [m_G] at hF
    split at hF
    · rename_i x r
      split at hF
      · rename_i hlt
        have hlt : n.val + 1 < lo.length := Nat.le_of_ble_eq_true hlt
        exact lv_lstore_n (lv := m_al ad 0 lo) hx hb hd rfl hl.1 (by rw [← hl.2]; exact hlt) rfl (fun ls' hl' => hF H locs ls' hP hsz hlen hS (m_lh_sto2 (v := .long x) hl.2 (by rw [← hl.2]; exact hlt) hl'))
      · exact hF.elim
    · exact hF.elim
  | lstore n =>
    have hd : decode cc pc = .ok (.lstore n, 2) := hd
    have hnx : nx = pc + 2 := hnx
    subst hnx
    have hn : a = n := Nat.eq_of_beq_eq_true hX
    subst hn
    simp only [m_G] at hF
    split at hF
    · rename_i x r
      split at hF
      · rename_i hlt
        have hlt : a + 1 < lo.length := Nat.le_of_ble_eq_true hlt
        exact lv_lstore (lv := m_al ad 0 lo) hx hb hd hl.1 (by rw [← hl.2]; exact hlt) rfl (fun ls' hl' => hF H locs ls' hP hsz hlen hS (m_lh_sto2 (v := .long x) hl.2 (by rw [← hl.2]; exact hlt) hl'))
      · exact hF.elim
    · exact hF.elim
  | astore_n n =>
    have hd : decode cc pc = .ok (.astore_n n, 1) := hd
    have hnx : nx = pc + 1 := hnx
    subst hnx
    have hn : a = n.val := Nat.eq_of_beq_eq_true hX
    subst hn
    simp only [m_G] at hF
    split at hF
    · rename_i x r
      split at hF
      · rename_i hlt
        have hlt : n.val < lo.length := Nat.le_of_ble_eq_true hlt
        exact lv_astore_n (lv := m_al ad 0 lo) hx hb hd rfl hl.1 (by rw [← hl.2]; exact hlt) rfl (fun ls' hl' => hF H locs ls' hP hsz hlen hS (m_lh_sto1 (v := .ref x) hl.2 rfl hl'))
      · exact hF.elim
    · exact hF.elim
  | iinc n dd =>
    have hd : decode cc pc = .ok (.iinc n dd, 3) := hd
    have hnx : nx = pc + 3 := hnx
    subst hnx
    obtain ⟨hX1, hX2⟩ := m_and hX
    have hn : a = n := Nat.eq_of_beq_eq_true hX1
    subst hn
    have hv := of_decide_eq_true hX2
    subst hv
    simp only [m_G] at hF
    split at hF
    · rename_i x d' hlo hv'
      cases hv'
      split at hF
      · rename_i hlt
        have hlt : a < lo.length := Nat.le_of_ble_eq_true hlt
        rw [m_nth_eq] at hlo
        have hmem := m_al_in ad lo 0 a _ hlo
        rw [Nat.zero_add] at hmem
        obtain ⟨kk, hkk⟩ := List.getElem?_of_mem hmem
        exact lv_iinc (lv := m_al ad 0 lo) (k := kk) (x := x) hx hb hd hl.1 hkk rfl (by rw [← hl.2]; exact hlt) rfl (fun ls' hl' => hF H locs ls' hP hsz hlen hS (m_lh_sto1 (v := .int (x + Int32.ofInt dd)) hl.2 rfl hl'))
      · exact hF.elim
    · exact hF.elim
  | iadd =>
    have hd : decode cc pc = .ok (.iadd, 1) := hd
    have hnx : nx = pc + 1 := hnx
    subst hnx
    simp only [m_G] at hF
    split at hF
    · exact lv_iadd hx hb hd (hF H locs ls hP hsz hlen hS hl)
    · exact hF.elim
  | isub =>
    have hd : decode cc pc = .ok (.isub, 1) := hd
    have hnx : nx = pc + 1 := hnx
    subst hnx
    simp only [m_G] at hF
    split at hF
    · exact lv_isub hx hb hd (hF H locs ls hP hsz hlen hS hl)
    · exact hF.elim
  | imul =>
    have hd : decode cc pc = .ok (.imul, 1) := hd
    have hnx : nx = pc + 1 := hnx
    subst hnx
    simp only [m_G] at hF
    split at hF
    · exact lv_imul hx hb hd (hF H locs ls hP hsz hlen hS hl)
    · exact hF.elim
  | iand =>
    have hd : decode cc pc = .ok (.iand, 1) := hd
    have hnx : nx = pc + 1 := hnx
    subst hnx
    simp only [m_G] at hF
    split at hF
    · exact lv_iand hx hb hd (hF H locs ls hP hsz hlen hS hl)
    · exact hF.elim
  | ior =>
    have hd : decode cc pc = .ok (.ior, 1) := hd
    have hnx : nx = pc + 1 := hnx
    subst hnx
    simp only [m_G] at hF
    split at hF
    · exact lv_ior hx hb hd (hF H locs ls hP hsz hlen hS hl)
    · exact hF.elim
  | ixor =>
    have hd : decode cc pc = .ok (.ixor, 1) := hd
    have hnx : nx = pc + 1 := hnx
    subst hnx
    simp only [m_G] at hF
    split at hF
    · exact lv_ixor hx hb hd (hF H locs ls hP hsz hlen hS hl)
    · exact hF.elim
  | ishl =>
    have hd : decode cc pc = .ok (.ishl, 1) := hd
    have hnx : nx = pc + 1 := hnx
    subst hnx
    simp only [m_G] at hF
    split at hF
    · exact lv_ishl hx hb hd (hF H locs ls hP hsz hlen hS hl)
    · exact hF.elim
  | ishr =>
    have hd : decode cc pc = .ok (.ishr, 1) := hd
    have hnx : nx = pc + 1 := hnx
    subst hnx
    simp only [m_G] at hF
    split at hF
    · exact lv_ishr hx hb hd (hF H locs ls hP hsz hlen hS hl)
    · exact hF.elim
  | iushr =>
    have hd : decode cc pc = .ok (.iushr, 1) := hd
    have hnx : nx = pc + 1 := hnx
    subst hnx
    simp only [m_G] at hF
    split at hF
    · exact lv_iushr hx hb hd rfl (hF H locs ls hP hsz hlen hS hl)
    · exact hF.elim
  | ladd =>
    have hd : decode cc pc = .ok (.ladd, 1) := hd
    have hnx : nx = pc + 1 := hnx
    subst hnx
    simp only [m_G] at hF
    split at hF
    · exact lv_ladd hx hb hd (hF H locs ls hP hsz hlen hS hl)
    · exact hF.elim
  | lsub =>
    have hd : decode cc pc = .ok (.lsub, 1) := hd
    have hnx : nx = pc + 1 := hnx
    subst hnx
    simp only [m_G] at hF
    split at hF
    · exact lv_lsub hx hb hd (hF H locs ls hP hsz hlen hS hl)
    · exact hF.elim
  | lmul =>
    have hd : decode cc pc = .ok (.lmul, 1) := hd
    have hnx : nx = pc + 1 := hnx
    subst hnx
    simp only [m_G] at hF
    split at hF
    · exact lv_lmul hx hb hd (hF H locs ls hP hsz hlen hS hl)
    · exact hF.elim
  | land =>
    have hd : decode cc pc = .ok (.land, 1) := hd
    have hnx : nx = pc + 1 := hnx
    subst hnx
    simp only [m_G] at hF
    split at hF
    · exact lv_land hx hb hd (hF H locs ls hP hsz hlen hS hl)
    · exact hF.elim
  | lor =>
    have hd : decode cc pc = .ok (.lor, 1) := hd
    have hnx : nx = pc + 1 := hnx
    subst hnx
    simp only [m_G] at hF
    split at hF
    · exact lv_lor hx hb hd (hF H locs ls hP hsz hlen hS hl)
    · exact hF.elim
  | lshl =>
    have hd : decode cc pc = .ok (.lshl, 1) := hd
    have hnx : nx = pc + 1 := hnx
    subst hnx
    simp only [m_G] at hF
    split at hF
    · exact lv_lshl hx hb hd rfl (hF H locs ls hP hsz hlen hS hl)
    · exact hF.elim
  | lushr =>
    have hd : decode cc pc = .ok (.lushr, 1) := hd
    have hnx : nx = pc + 1 := hnx
    subst hnx
    simp only [m_G] at hF
    split at hF
    · exact lv_lushr hx hb hd rfl (hF H locs ls hP hsz hlen hS hl)
    · exact hF.elim
  | lcmp =>
    have hd : decode cc pc = .ok (.lcmp, 1) := hd
    have hnx : nx = pc + 1 := hnx
    subst hnx
    simp only [m_G] at hF
    split at hF
    · exact W.lcmp hx hb hd (hF H locs ls hP hsz hlen hS hl)
    · exact hF.elim
  | ineg =>
    have hd : decode cc pc = .ok (.ineg, 1) := hd
    have hnx : nx = pc + 1 := hnx
    subst hnx
    simp only [m_G] at hF
    split at hF
    · exact lv_ineg hx hb hd (hF H locs ls hP hsz hlen hS hl)
    · exact hF.elim
  | lneg =>
    have hd : decode cc pc = .ok (.lneg, 1) := hd
    have hnx : nx = pc + 1 := hnx
    subst hnx
    simp only [m_G] at hF
    split at hF
    · exact lv_lneg hx hb hd (hF H locs ls hP hsz hlen hS hl)
    · exact hF.elim
  | i2l =>
    have hd : decode cc pc = .ok (.i2l, 1) := hd
    have hnx : nx = pc + 1 := hnx
    subst hnx
    simp only [m_G] at hF
    split at hF
    · exact lv_i2l hx hb hd rfl (hF H locs ls hP hsz hlen hS hl)
    · exact hF.elim
  | l2i =>
    have hd : decode cc pc = .ok (.l2i, 1) := hd
    have hnx : nx = pc + 1 := hnx
    subst hnx
    simp only [m_G] at hF
    split at hF
    · exact lv_l2i hx hb hd rfl (hF H locs ls hP hsz hlen hS hl)
    · exact hF.elim
  | i2b =>
    have hd : decode cc pc = .ok (.i2b, 1) := hd
    have hnx : nx = pc + 1 := hnx
    subst hnx
    simp only [m_G] at hF
    split at hF
    · exact lv_i2b hx hb hd rfl (hF H locs ls hP hsz hlen hS hl)
    · exact hF.elim
  | i2s =>
    have hd : decode cc pc = .ok (.i2s, 1) := hd
    have hnx : nx = pc + 1 := hnx
    subst hnx
    simp only [m_G] at hF
    split at hF
    · exact lv_i2s hx hb hd rfl (hF H locs ls hP hsz hlen hS hl)
    · exact hF.elim
  | i2c =>
    have hd : decode cc pc = .ok (.i2c, 1) := hd
    have hnx : nx = pc + 1 := hnx
    subst hnx
    simp only [m_G] at hF
    split at hF
    · exact lv_i2c hx hb hd rfl (hF H locs ls hP hsz hlen hS hl)
    · exact hF.elim
  | dup =>
    have hd : decode cc pc = .ok (.dup, 1) := hd
    have hnx : nx = pc + 1 := hnx
    subst hnx
    simp only [m_G] at hF
    split at hF
    · split at hF
      · exact hF.elim
      · rename_i hc
        exact lv_dup hx hb hd (by rw [m_tr_cat, m_c2_cat, hc]; rfl) (hF H locs ls hP hsz hlen hS hl)
    · exact hF.elim
  | pop =>
    have hd : decode cc pc = .ok (.pop, 1) := hd
    have hnx : nx = pc + 1 := hnx
    subst hnx
    simp only [m_G] at hF
    split at hF
    · split at hF
      · exact hF.elim
      · rename_i hc
        exact lv_pop hx hb hd (by rw [m_tr_cat, m_c2_cat, hc]; rfl) (hF H locs ls hP hsz hlen hS hl)
    · exact hF.elim
  | dup2 =>
    have hd : decode cc pc = .ok (.dup2, 1) := hd
    have hnx : nx = pc + 1 := hnx
    subst hnx
    simp only [m_G] at hF
    split at hF
    · split at hF
      · exact hF.elim
      · rename_i hc
        split at hF
        · exact hF.elim
        · rename_i hc2
          exact lv_dup2_11 hx hb hd (by rw [m_tr_cat, m_c2_cat, hc]; rfl) (by rw [m_tr_cat, m_c2_cat, hc2]; rfl) (hF H locs ls hP hsz hlen hS hl)
    · exact hF.elim
  | ifCond cond off =>
    have hd : decode cc pc = .ok (.ifCond cond off, 3) := hd
    have hnx : nx = pc + 3 := hnx
    subst hnx
    have ht := of_decide_eq_true hX
    simp only [m_G] at hF
    split at hF
    · cases cond with
      | eq => exact lv_if_eq hx hb hd ht (fun h => hF.1 h H locs ls hP hsz hlen hS hl) (fun h => hF.2 h H locs ls hP hsz hlen hS hl)
      | ne => exact lv_if_ne hx hb hd ht (fun h => hF.2 h H locs ls hP hsz hlen hS hl) (fun h => hF.1 h H locs ls hP hsz hlen hS hl)
      | lt => exact lv_if_lt hx hb hd ht (fun h => hF.1 h H locs ls hP hsz hlen hS hl) (fun h => hF.2 h H locs ls hP hsz hlen hS hl)
      | ge => exact lv_if_ge hx hb hd ht (fun h => hF.2 (m_nlt.mpr h) H locs ls hP hsz hlen hS hl) (fun h => hF.1 (m_nle.mp h) H locs ls hP hsz hlen hS hl)
      | gt => exact lv_if_gt hx hb hd ht (fun h => hF.1 h H locs ls hP hsz hlen hS hl) (fun h => hF.2 h H locs ls hP hsz hlen hS hl)
      | le => exact lv_if_le hx hb hd ht (fun h => hF.2 (m_nlt.mpr h) H locs ls hP hsz hlen hS hl) (fun h => hF.1 (m_nle.mp h) H locs ls hP hsz hlen hS hl)
    · exact hF.elim
  | if_icmp cond off =>
    have hd : decode cc pc = .ok (.if_icmp cond off, 3) := hd
    have hnx : nx = pc + 3 := hnx
    subst hnx
    have ht := of_decide_eq_true hX
    simp only [m_G] at hF
    split at hF
    · cases cond with
      | eq => exact lv_icmp_eq hx hb hd ht (fun h => hF.1 h H locs ls hP hsz hlen hS hl) (fun h => hF.2 h H locs ls hP hsz hlen hS hl)
      | ne => exact lv_icmp_ne hx hb hd ht (fun h => hF.2 h H locs ls hP hsz hlen hS hl) (fun h => hF.1 h H locs ls hP hsz hlen hS hl)
      | lt => exact lv_icmp_lt hx hb hd ht (fun h => hF.1 h H locs ls hP hsz hlen hS hl) (fun h => hF.2 h H locs ls hP hsz hlen hS hl)
      | ge => exact lv_icmp_ge hx hb hd ht (fun h => hF.2 (m_nlt.mpr h) H locs ls hP hsz hlen hS hl) (fun h => hF.1 (m_nle.mp h) H locs ls hP hsz hlen hS hl)
      | gt => exact lv_icmp_gt hx hb hd ht (fun h => hF.1 h H locs ls hP hsz hlen hS hl) (fun h => hF.2 h H locs ls hP hsz hlen hS hl)
      | le => exact lv_icmp_le hx hb hd ht (fun h => hF.2 (m_nlt.mpr h) H locs ls hP hsz hlen hS hl) (fun h => hF.1 (m_nle.mp h) H locs ls hP hsz hlen hS hl)
    · exact hF.elim
  | goto off =>
    have hd : decode cc pc = .ok (.goto off, 3) := hd
    have ht := of_decide_eq_true hX
    exact lv_goto hx hb hd ht (hF H locs ls hP hsz hlen hS hl)
  | lookupswitch dd ps =>
    have hd : decode cc pc = .ok (.lookupswitch dd ps, nx - pc) := hd
    obtain ⟨hA1, hB1⟩ := m_and hX
    obtain ⟨hA2, hB2⟩ := m_and hB1
    obtain ⟨hA3, hA4⟩ := m_and hB2
    have ht := of_decide_eq_true hA1
    have hs := of_decide_eq_true hA2
    subst hs
    simp only [m_G] at hF
    split at hF
    · obtain ⟨off, tgt, q1, q2, q3⟩ := m_lsw_ok ht ps.toList hA3 hF
      exact lv_lookup hx hb hd hA4 q1 q2 (q3 H locs ls hP hsz hlen hS hl)
    · exact hF.elim
  | tableswitch dd lo' hi offs =>
    have hd : decode cc pc = .ok (.tableswitch dd lo' hi offs, nx - pc) := hd
    obtain ⟨hA1, hB1⟩ := m_and hX
    obtain ⟨hA2, hB2⟩ := m_and hB1
    obtain ⟨hA3, hB3⟩ := m_and hB2
    obtain ⟨hA4, hB4⟩ := m_and hB3
    obtain ⟨hA5, hA6⟩ := m_and hB4
    have ht := of_decide_eq_true hA1
    have hs := of_decide_eq_true hA2
    have hlo := of_decide_eq_true hA4
    have hhi := of_decide_eq_true hA5
    have hsm := of_decide_eq_true hA6
    subst hs
    subst hlo
    simp only [m_G] at hF
    split at hF
    · rename_i x r
      have hsz2 : offs.toList.length = offs.size := Array.length_toList
      have key := m_tsw_ok (x := x) (pc := pc) (a := a) offs.toList 0 (by omega) hA3 hF
      by_cases hr : x.toInt < 0 ∨ hi < x.toInt
      · exact lv_tableOut hx hb hd hr ht (key.2 (by rw [hsz2]; omega) H locs ls hP hsz hlen hS hl)
      · obtain ⟨off, tgt, q1, q2, q3⟩ := key.1 x.toInt.toNat (by rw [hsz2]; omega) (by omega)
        refine lv_tableIn hx hb hd (by omega) (by omega) (off := off) ?_ q2 (q3 H locs ls hP hsz hlen hS hl)
        rw [show (x.toInt - 0).toNat = x.toInt.toNat by omega, ← Array.getElem?_toList]
        exact q1
    · exact hF.elim
  | _ => first | (exact (show False from hF).elim) | (simp [m_grp] at hcase)
