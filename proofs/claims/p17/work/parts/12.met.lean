/-! ===== returns; a step of the small machine, whatever it is; a method's contract ===== -/
theorem m_grp3 (i : Instr) : m_grp i ≤ 3 := by cases i <;> simp [m_grp]
section MRET
variable {p : Program} {l : Launch} {e : Env} {R : Room} {s : State} {m : MethodId} {args : Array Value} {below : List Frame} {meth : Method} {c : Code} {QT : State → Prop} {ad : Nat → Nat} {aC : FieldType → ClassId} {dC : Nat → ClassId} {dI : Nat → Nat → Nat} {base XL nL oi d : Nat} {XS : Nat → Int32} {cc : ByteArray}
/-- what is done at a method's ends -/
def m_Ret (p : Program) (l : Launch) (e : Env) (R : Room) (s : State) (m : MethodId) (args : Array Value) (below : List Frame) (meth : Method) (c : Code) (QT : State → Prop) (ad : Nat → Nat) (aC : FieldType → ClassId) (dC : Nat → ClassId) (dI : Nat → Nat → Nat) (base : Nat) (cc : ByteArray) (rt : Option FieldType) (mc ms : Nat) (QM : mK) : Prop :=
  ∀ (rv : Option Value) (w : mW) (H : Heap) (locs : List Loc) (ls : Array Slot) (pc : Nat), QM rv w → va_P (dC, dI) vwCl (m_wl ad aC w.2.1 w.2.2 0 w.1) H → s.heap.size + mc = base + w.1.length → w.1.length ≤ 1000 → va_S (fun q => base ≤ q) s.heap H locs →
    (∀ (x : Int32) (ty : FieldType), rv = some (.int x) → rt = some ty → narrow ty (.int x) = .int x → decode cc pc = .ok (.ireturn, 1) → W p l e R s m args below meth c H locs mc ms QT (F0 m pc ls [.int x])) ∧
    (∀ (x : Int64), rv = some (.long x) → rt = some .long → decode cc pc = .ok (.lreturn, 1) → W p l e R s m args below meth c H locs mc ms QT (F0 m pc ls [.long x])) ∧
    (rv = none → rt = none → decode cc pc = .ok (.return_, 1) → W p l e R s m args below meth c H locs mc ms QT (F0 m pc ls []))
set_option maxHeartbeats 4000000 in
theorem m_step_ret {C : mC} {rt : Option FieldType} {kd mc ms : Nat} {QM : mK} {pc nx a b : Nat} {i : Instr} {v : Value} {sw : List (Int32 × Nat)} {lo : List (Option Value)} {st : List Value} {sh : List mS} {I : Nat → Nat → Int32} {L : Nat → Nat → Int64} {ce sl : Nat}
    (hR : m_Ret p l e R s m args below meth c QT ad aC dC dI base cc rt mc ms QM)
    (hd : decode cc pc = .ok (i, m_len i (nx - pc)))
    (hF : m_G XL XS C rt kd mc ms QM (m_PW p l e R s m args below meth c QT nL ad aC dC dI base) i nx a b v sw lo st sh I L ce sl)
    (hcase : m_grp i = 3) :
    m_PW p l e R s m args below meth c QT nL ad aC dC dI base (pc, lo, st, (sh, I, L), ce, sl) := by
  intro H locs ls hP hsz hlen hS hl
  cases i with
  | ireturn =>
    have hd : decode cc pc = .ok (.ireturn, 1) := hd
    simp only [m_G] at hF
    split at hF
    · rename_i x
      split at hF
      · split at hF
        · rename_i hg
          obtain ⟨h1, h2⟩ := m_and hg
          have h1 := m_beq h1
          have h2 := m_beq h2
          subst h1
          subst h2
          exact (hR (some (.int x)) (sh, I, L) H locs ls pc hF hP hsz hlen hS).1 x .int rfl rfl rfl hd
        · exact hF.elim
      · rename_i ty hty
        split at hF
        · rename_i hg
          obtain ⟨h1, h2⟩ := m_and hg
          have h1 := m_beq h1
          have h2 := m_beq h2
          subst h1
          subst h2
          exact (hR (some (.int x)) (sh, I, L) H locs ls pc hF.2 hP hsz hlen hS).1 x ty rfl rfl hF.1 hd
        · exact hF.elim
      · exact hF.elim
    · exact hF.elim
  | lreturn =>
    have hd : decode cc pc = .ok (.lreturn, 1) := hd
    simp only [m_G] at hF
    split at hF
    · rename_i x
      split at hF
      · split at hF
        · rename_i hg
          obtain ⟨h1, h2⟩ := m_and hg
          have h1 := m_beq h1
          have h2 := m_beq h2
          subst h1
          subst h2
          exact (hR (some (.long x)) (sh, I, L) H locs ls pc hF hP hsz hlen hS).2.1 x rfl rfl hd
        · exact hF.elim
      · exact hF.elim
    · exact hF.elim
  | return_ =>
    have hd : decode cc pc = .ok (.return_, 1) := hd
    simp only [m_G] at hF
    split at hF
    · split at hF
      · split at hF
        · rename_i hg
          obtain ⟨h1, h2⟩ := m_and hg
          have h1 := m_beq h1
          have h2 := m_beq h2
          subst h1
          subst h2
          exact (hR none (sh, I, L) H locs ls pc hF hP hsz hlen hS).2.2 rfl rfl hd
        · exact hF.elim
      · exact hF.elim
    · exact hF.elim
  | _ => simp [m_grp] at hcase
theorem m_step (Cx : m_Cx p R s m args c cc nL oi ad aC dC dI base XL XS d) {C : mC} {cd : mL} {rt : Option FieldType} {kd mc ms : Nat} {QM : mK} (hok : m_okC oi cc cd = true)
    (hin : ∀ x, kd = 100 + x → meth.name = "<init>" ∧ x = oi) (hC : ∀ id as w K, C id as w K → m_Met l ad aC dC dI base XL XS d id as w K) (hRR : mc ≤ R.cells ∧ ms ≤ R.slots)
    (hR : m_Ret p l e R s m args below meth c QT ad aC dC dI base cc rt mc ms QM) :
    ∀ t, m_F XL XS C cd rt kd mc ms QM (m_PW p l e R s m args below meth c QT nL ad aC dC dI base) t → m_PW p l e R s m args below meth c QT nL ad aC dC dI base t := by
  intro t hF
  obtain ⟨pc, lo, st, ⟨sh, I, L⟩, ce, sl⟩ := t
  simp only [m_F] at hF
  split at hF
  · rename_i q1 i nx a b v sw hat
    obtain ⟨h1, h2, h3, h4⟩ := m_okI_of hok hat
    simp only at h1 h2 h3
    subst h1
    have hg3 := m_grp3 i
    have hg : m_grp i = 0 ∨ m_grp i = 1 ∨ m_grp i = 2 ∨ m_grp i = 3 := by omega
    rcases hg with hg | hg | hg | hg
    · exact m_step_stack Cx h2 h3 h4 hF hg
    · exact m_step_mem Cx hin h2 h3 h4 hF hg
    · exact m_step_call Cx hC hRR h2 h3 h4 hF hg
    · exact m_step_ret hR h2 hF hg
  · exact hF.elim
end MRET
/-- the words as packedWord packs them -/
def m_pwv (i : Nat) : Int64 := ((m_strT.getD i "").toList).foldl (fun a ch => (a <<< ((8 : Int32).toInt64 &&& 63)) ||| (Int32.ofNat ch.toNat).toInt64) 0
def m_pwC : List Value → mW → mK → Prop := fun as w K => ∃ i, i < 15 ∧ as = [.ref (1000000 + i)] ∧ K (some (.long (m_pwv i))) w
def m_kdc (kd oi : Nat) : Nat := match kd with
  | 2 => 100 + oi
  | _ => 0
/-- calls of at most d frames -/
def m_C (XL : Nat) (XS : Nat → Int32) : Nat → mC
  | 0 => fun _ _ _ _ => False
  | d + 1 => fun id as w K => match Nat.beq id 62 with
    | true => 8 ≤ d ∧ m_pwC as w K
    | false => match m_nth m_tab id with
      | none => False
      | some M => (m_ent as).length ≤ M.2.2.1 ∧ m_WP XL XS (m_C XL XS d) M.2.2.2.2.2.2.2 M.2.2.2.1 (m_kdc M.2.2.2.2.1 M.2.2.2.2.2.1) (m_cost id).1 (m_cost id).2 K (0, m_pad M.2.2.1 (m_ent as), [], w, 0, 0)
set_option maxHeartbeats 4000000 in
theorem m_met_open {l : Launch} {ad : Nat → Nat} {aC : FieldType → ClassId} {dC : Nat → ClassId} {dI : Nat → Nat → Nat} {base XL : Nat} {XS : Nat → Int32} (had : ∀ k, k < 1000000 → ad k = base + k)
    (hPW : ∀ d as w K, 8 ≤ d → m_pwC as w K → m_Met l ad aC dC dI base XL XS (d + 1) 62 as w K) :
    ∀ (d id : Nat) (as : List Value) (w : mW) (K : mK), m_C XL XS d id as w K → m_Met l ad aC dC dI base XL XS d id as w K := by
  intro d
  induction d with
  | zero => intro id as w K h; exact h.elim
  | succ d ih =>
    intro id as w K h
    simp only [m_C] at h
    split at h
    · rename_i h62
      have h62 := m_beq h62
      subst h62
      exact hPW d as w K h.1 h.2
    · intro M hM
      rw [hM] at h
      obtain ⟨hel, h⟩ := h
      have hMok := m_tabok hM
      obtain ⟨w1, w2, w3, ⟨w4, w5, w6, w7, w8, w9, w10, w11⟩, w12⟩ := hMok
      refine Met.ofW (cc := M.2.1) (maxL := M.2.2.1) (ret := M.2.2.2.1) w4 rfl ?_
      intro p e s m args below meth c s₁ B hml hv
      obtain ⟨rfl, hctx, hHp, hz, hlen⟩ := hv
      have hts0 := atoms_spec (ws := Cond.code M.1 M.2.1 M.2.2.1 M.2.2.2.1 :: m_ws) B.pre
      have hts : ∀ w ∈ m_ws, w.before (as.map (m_tr ad)).toArray s = true := fun w hw => hts0 w (List.mem_cons_of_mem _ hw)
      have hown : s.vm.findClass M.1.cls = some m.cls := findClass_of_methodNamed B.named
      rw [w5] at hown
      have hlocks := B.notSynchronized
      have Cx : m_Cx p (headSpec (Cond.code M.1 M.2.1 M.2.2.1 M.2.2.2.1 :: m_ws) (m_rm (d + 1) id)).room s m (as.map (m_tr ad)).toArray c M.2.1 M.2.2.1 M.2.2.2.2.2.1 ad aC dC dI base XL XS d :=
        ⟨B.exec, B.bytes, hml, hown, hts, hctx, had, Nat.le_refl _, by show 64 * d + 64 ≤ 64 * (d + 1); omega⟩
      have hin : ∀ x, m_kdc M.2.2.2.2.1 M.2.2.2.2.2.1 = 100 + x → meth.name = "<init>" ∧ x = M.2.2.2.2.2.1 := by
        intro x hxx
        have hk : M.2.2.2.2.1 = 2 := by
          unfold m_kdc at hxx
          split at hxx
          · assumption
          · omega
        rw [hk] at w3 hxx
        have hnm := (name_of_methodNamed B.named B.method).1
        refine ⟨by rw [hnm]; exact w3.2.1, ?_⟩
        have : 100 + M.2.2.2.2.2.1 = 100 + x := hxx
        omega
      have hR : m_Ret p l e (headSpec (Cond.code M.1 M.2.1 M.2.2.1 M.2.2.2.1 :: m_ws) (m_rm (d + 1) id)).room s m (as.map (m_tr ad)).toArray below meth c (MQ below (m_Qc ad aC dC dI base K (w.1.length + (m_cost id).1)) (as.map (m_tr ad)).toArray s (m_cost id).1 (m_cost id).2 (fun q => base ≤ q)) ad aC dC dI base M.2.1 M.2.2.2.1 (m_cost id).1 (m_cost id).2 K := by
        intro rv w' H locs ls pc hK hP hsz hl hS
        have fin : ∀ t : State, t.heap = H → s.WarmedH t.vm → m_Qc ad aC dC dI base K (w.1.length + (m_cost id).1) (as.map (m_tr ad)).toArray s (.returned (rv.map (m_tr ad))) t := by
          intro t ht hW
          refine ⟨rv, w', hK, rfl, by rw [ht]; exact hP, by omega, hl, fun q hq => by rw [ht]; exact hS.2.1 q (by omega) (by omega)⟩
        refine ⟨fun x ty hrv hrt hn hdg => ?_, fun x hrv hrt hdg => ?_, fun hrv hrt hdg => ?_⟩
        · subst hrv
          exact W.zret B.exec B.bytes (by rw [B.returns, hrt]) hn fin hS.2.2 hdg
        · subst hrv
          exact W.lret B.exec B.bytes (by rw [B.returns, hrt]) fin hS.2.2 hdg
        · subst hrv
          exact W.vret B.exec B.bytes (by rw [B.returns, hrt]) fin hS.2.2 hdg
      have key := h _ (m_step (p := p) (l := l) (e := e) (R := (headSpec (Cond.code M.1 M.2.1 M.2.2.1 M.2.2.2.1 :: m_ws) (m_rm (d + 1) id)).room) (s := s) (m := m) (below := below) (meth := meth) (c := c) Cx w12 hin ih ⟨Nat.le_refl _, Nat.le_refl _⟩ hR)
      rw [lg_entry_eq]
      obtain ⟨sh, I, L⟩ := w
      exact key s.heap [] _ hHp (by simp only at hz; omega) hlen va_S.rf (m_lh_entry ad as M.2.2.1 hel)
