/-! ===== a contract over a world that stays; calls of it ===== -/
def j_Pc (ad : Nat → Nat) (aC : FieldType → ClassId) (dC : Nat → ClassId) (dI : Nat → Nat → Nat) (base XL : Nat) (XS : Nat → Int32) (av : List Value) (w : mW) : Array Value → State → Prop := fun v U => v = av.toArray ∧ m_Ctx ad aC dC dI base XL XS U ∧ m_Hp ad aC dC dI w U.heap ∧ U.heap.size = base + w.1.length ∧ w.1.length ≤ 1000
def j_rm (d : Nat) : Room := { frames := d, cells := 0, slots := 0, locals := 64 * d }
def j_K (rv : Option Value) (w : mW) : mK := fun r w' => r = rv ∧ w' = w
def jMet (l : Launch) (ad : Nat → Nat) (aC : FieldType → ClassId) (dC : Nat → ClassId) (dI : Nat → Nat → Nat) (base XL : Nat) (XS : Nat → Int32) (d : Nat) (y : MethodName) (cc : ByteArray) (nL : Nat) (ret : Option FieldType) (av : List Value) (w : mW) (K : mK) : Prop :=
  Met l y (Cond.code y cc nL ret :: m_ws) (j_rm d) (j_Pc ad aC dC dI base XL XS av w) (m_Qc ad aC dC dI base K w.1.length) 0 0 (fun q => base ≤ q)
/-- what such a method's walk stands on -/
def jB (p : Program) (R : Room) (s : State) (m : MethodId) (args : Array Value) (c : Code) (cc : ByteArray) (nL : Nat) (own : String) (ad : Nat → Nat) (aC : FieldType → ClassId) (dC : Nat → ClassId) (dI : Nat → Nat → Nat) (base XL : Nat) (XS : Nat → Int32) (d : Nat) (w : mW) : Prop :=
  CallFix p m c cc nL s args m_ws own ∧ m_Ctx ad aC dC dI base XL XS s ∧ (d + 1 ≤ R.frames ∧ 64 * d + 64 ≤ R.locals) ∧ (s.heap.size = base + w.1.length ∧ w.1.length ≤ 1000)
section JDK
variable {l : Launch} {ad : Nat → Nat} {aC : FieldType → ClassId} {dC : Nat → ClassId} {dI : Nat → Nat → Nat} {base XL : Nat} {XS : Nat → Int32}
theorem j_Pc_blind {av : List Value} {w : mW} : FrameBlind (j_Pc ad aC dC dI base XL XS av w) := by
  intro a U g mk h
  obtain ⟨h1, h2, h3, h4, h5⟩ := h
  exact ⟨h1, h2.call g mk a, h3, h4, h5⟩
theorem jm_of {d nL : Nat} {y : MethodName} {cc : ByteArray} {ret : Option FieldType} {av : List Value} {w : mW} {K : mK} (hy : plainName y.cls = true) (hel : (lg_sl av).length ≤ nL)
    (h : ∀ (p : Program) (e : Env) (R : Room) (s : State) (m : MethodId) (below : List Frame) (meth : Method) (c : Code) (QT : State → Prop) (ls : Array Slot), jB p R s m av.toArray c cc nL y.cls ad aC dC dI base XL XS d w → m_Hp ad aC dC dI w s.heap → m_Ret p l e R s m av.toArray below meth c QT ad aC dC dI base cc ret 0 0 K → lv_has ls nL (lv_args 0 av) → W p l e R s m av.toArray below meth c s.heap [] 0 0 QT (F0 m 0 ls [])) :
    jMet l ad aC dC dI base XL XS (d + 1) y cc nL ret av w K := by
  refine Met.ofW (cc := cc) (maxL := nL) (ret := ret) hy rfl ?_
  intro p e s m args below meth c s₁ B hml hv
  obtain ⟨rfl, hctx, hHp, hz, hlen⟩ := hv
  have hts0 := atoms_spec (ws := Cond.code y cc nL ret :: m_ws) B.pre
  have hts : ∀ w ∈ m_ws, w.before av.toArray s = true := fun w hw => hts0 w (List.mem_cons_of_mem _ hw)
  have hown : s.vm.findClass y.cls = some m.cls := findClass_of_methodNamed B.named
  have hR : m_Ret p l e (headSpec (Cond.code y cc nL ret :: m_ws) (j_rm (d + 1))).room s m av.toArray below meth c (MQ below (m_Qc ad aC dC dI base K w.1.length) av.toArray s 0 0 (fun q => base ≤ q)) ad aC dC dI base cc ret 0 0 K := by
    intro rv' w' H locs ls pc hK hP hsz hl hS
    have fin : ∀ t : State, t.heap = H → s.WarmedH t.vm → m_Qc ad aC dC dI base K w.1.length av.toArray s (.returned (rv'.map (m_tr ad))) t := by
      intro t ht hW
      refine ⟨rv', w', hK, rfl, by rw [ht]; exact hP, by omega, hl, fun q hq => by rw [ht]; exact hS.2.1 q (by omega) (by omega)⟩
    refine ⟨fun x ty hrv hrt hn hdg => ?_, fun x hrv hrt hdg => ?_, fun hrv hrt hdg => ?_⟩
    · subst hrv
      exact W.zret B.exec B.bytes (by rw [B.returns, hrt]) hn fin hS.2.2 hdg
    · subst hrv
      exact W.lret B.exec B.bytes (by rw [B.returns, hrt]) fin hS.2.2 hdg
    · subst hrv
      exact W.vret B.exec B.bytes (by rw [B.returns, hrt]) fin hS.2.2 hdg
  rw [lg_entry_eq]
  exact h p e _ s m below meth c _ _ ⟨⟨B.exec, B.bytes, hml, hown, hts⟩, hctx, ⟨Nat.le_refl _, by show 64 * d + 64 ≤ 64 * (d + 1); omega⟩, hz, hlen⟩ hHp hR (lv_entry av hel)
variable {p : Program} {e : Env} {R : Room} {s : State} {m : MethodId} {args : Array Value} {below : List Frame} {meth : Method} {c : Code} {QT : State → Prop} {cc : ByteArray} {nL d : Nat} {own : String} {w : mW} {H : Heap} {locs : List Loc} {ls : Array Slot} {pc : Nat}
theorem j_pre (B : jB p R s m args c cc nL own ad aC dC dI base XL XS d w) (hP : m_Hp ad aC dC dI w H) (hS : va_S (fun q => base ≤ q) s.heap H locs) (hz : H.size = s.heap.size) (av : List Value) : ∀ U : State, U.heap = H → s.WarmedH U.vm → j_Pc ad aC dC dI base XL XS av w av.toArray U := by
  obtain ⟨S, hctx, hr, hsz, hlen⟩ := B
  intro U hU hW
  exact ⟨rfl, hctx.move hW (fun q hq => by rw [hU]; exact hS.2.1 q (by omega) (by omega)) (by rw [hU]; omega), by rw [hU]; exact hP, by rw [hU]; omega, hlen⟩
theorem j_good {y : MethodName} {cy : ByteArray} {ny : Nat} {ry : Option FieldType} (h : Cond.code y cy ny ry ∈ m_ws) : GoodIn m_ws (Cond.code y cy ny ry :: m_ws) := by
  intro w hw
  rcases List.mem_cons.mp hw with rfl | hw
  · exact m_good _ h
  · exact m_good _ hw
theorem j_callS {y : MethodName} {cy : ByteArray} {ny idx : Nat} {ry : Option FieldType} {As r : List Value} {rv : Option Value} (B : jB p R s m args c cc nL own ad aC dC dI base XL XS d w) (hmet : jMet l ad aC dC dI base XL XS d y cy ny ry As w (j_K rv w))
    (hco : Cond.code y cy ny ry ∈ m_ws) (hini : Cond.initialized y.cls ∈ m_ws) (hst : Cond.static y ∈ m_ws) (hlk : Cond.methodLink own idx y ∈ m_ws) (hd : y.cls ≠ "java/lang/invoke/MethodHandle" ∧ y.cls ≠ "java/lang/invoke/VarHandle" ∧ (parseMethodDescriptor y.desc).map (fun d => d.parameters.length) = some As.length) (hny : ny ≤ 45)
    (hls : ls.size = nL) (hcat : ((r.map (m_tr ad)).map (fun v => v.category)).sum ≤ 8) (hdg : decode cc pc = .ok (.invokestatic idx, 3)) (hP : m_Hp ad aC dC dI w H) (hS : va_S (fun q => base ≤ q) s.heap H locs)
    (kk : ∀ (H1 : Heap) (locs1 : List Loc), m_Hp ad aC dC dI w H1 → va_S (fun q => base ≤ q) s.heap H1 locs1 → W p l e R s m args below meth c H1 locs1 0 0 QT (F0 m (pc + 3) ls ((m_push rv r).map (m_tr ad)))) :
    W p l e R s m args below meth c H locs 0 0 QT (F0 m pc ls (As.reverse ++ r.map (m_tr ad))) := by
  refine m_sized fun hz1 hz2 => ?_
  have hz : H.size = s.heap.size := by omega
  have hpre := j_pre B hP hS hz As
  obtain ⟨S, hctx, ⟨hRf, hRl⟩, hsz, hlen⟩ := B
  have hts := S.2.2.2.2
  have cw : CallB R s args own idx y cy ny ry (Cond.code y cy ny ry :: m_ws) (j_rm d) 0 0 As.length ∧ (Cond.static y).before args s = true := by
    refine ⟨callB_of As.length hts (j_good hco) rfl rfl rfl (hts _ hini) (hts _ hlk) hd ⟨hRf, ?_⟩, hts _ hst⟩
    show 8 + (ny + 11) + 64 * d ≤ R.locals
    omega
  refine m_after (n := w.1.length) (va_runS (As := As) (rest := r.map (m_tr ad)) S hmet cw ⟨j_Pc_blind, hpre⟩ rfl rfl hls rfl (lv_room hcat) hdg ⟨by omega, by omega⟩) hS (by omega) (fun rv' w' H1 locs1 hKr hw hn1 hn2 hS1 => ?_)
  obtain ⟨rfl, rfl⟩ := hKr
  exact kk H1 locs1 hw hS1
theorem j_callV {y : MethodName} {cy : ByteArray} {ny idx b : Nat} {ry : Option FieldType} {As r : List Value} {rv : Option Value} (B : jB p R s m args c cc nL own ad aC dC dI base XL XS d w) (hmet : jMet l ad aC dC dI base XL XS d y cy ny ry (.ref b :: As) w (j_K rv w))
    (hco : Cond.code y cy ny ry ∈ m_ws) (hini : Cond.initialized y.cls ∈ m_ws) (him : Cond.instanceMethod y ∈ m_ws) (hse : Cond.selects y.cls y y ∈ m_ws) (hlk : Cond.methodLink own idx y ∈ m_ws) (hd : y.cls ≠ "java/lang/invoke/MethodHandle" ∧ y.cls ≠ "java/lang/invoke/VarHandle" ∧ (parseMethodDescriptor y.desc).map (fun d => d.parameters.length) = some As.length) (hny : ny ≤ 45)
    (hrec : ∃ cellB : Cell, H[b]? = some cellB ∧ cellB.vm.isStatics = false ∧ s.vm.findClass y.cls = some cellB.cls)
    (hls : ls.size = nL) (hcat : ((r.map (m_tr ad)).map (fun v => v.category)).sum ≤ 8) (hdg : decode cc pc = .ok (.invokevirtual idx, 3)) (hP : m_Hp ad aC dC dI w H) (hS : va_S (fun q => base ≤ q) s.heap H locs)
    (kk : ∀ (H1 : Heap) (locs1 : List Loc), m_Hp ad aC dC dI w H1 → va_S (fun q => base ≤ q) s.heap H1 locs1 → W p l e R s m args below meth c H1 locs1 0 0 QT (F0 m (pc + 3) ls ((m_push rv r).map (m_tr ad)))) :
    W p l e R s m args below meth c H locs 0 0 QT (F0 m pc ls (As.reverse ++ .ref b :: r.map (m_tr ad))) := by
  refine m_sized fun hz1 hz2 => ?_
  have hz : H.size = s.heap.size := by omega
  have hpre := j_pre B hP hS hz (.ref b :: As)
  obtain ⟨S, hctx, ⟨hRf, hRl⟩, hsz, hlen⟩ := B
  have hts := S.2.2.2.2
  have cw : CallW R s args own y.cls idx y cy ny ry (Cond.code y cy ny ry :: m_ws) (j_rm d) 0 0 As.length := by
    refine ⟨callB_of As.length hts (j_good hco) rfl rfl rfl (hts _ hini) (hts _ hlk) hd ⟨hRf, ?_⟩, hts _ him, hts _ hse⟩
    show 8 + (ny + 11) + 64 * d ≤ R.locals
    omega
  refine m_after (n := w.1.length) (va_runV (C := y.cls) (As := As) (rest := r.map (m_tr ad)) (b := b) S hmet cw ⟨j_Pc_blind, hrec, hpre⟩ rfl rfl hls rfl (lv_room hcat) hdg ⟨by omega, by omega⟩) hS (by omega) (fun rv' w' H1 locs1 hKr hw hn1 hn2 hS1 => ?_)
  obtain ⟨rfl, rfl⟩ := hKr
  exact kk H1 locs1 hw hS1
end JDK
