/-! ===== the small machine's world as the kit's cells ===== -/
def m_fs (ad : Nat → Nat) (I : Nat → Nat → Int32) (L : Nat → Nat → Int64) (ci k : Nat) : Nat → List (Option (Option Nat)) → List Value
  | _, [] => []
  | j, f :: r => m_tr ad (m_fv I L ci k j f) :: m_fs ad I L ci k (j + 1) r
def m_ve (ad : Nat → Nat) (aC : FieldType → ClassId) (I : Nat → Nat → Int32) (L : Nat → Nat → Int64) (k : Nat) : mS → va_E
  | .inl (ty, n) => .inl (aC ty, n, match ty with | .long => .inr (.inl (L k)) | _ => .inl (I k))
  | .inr (ci, fs) => .inr (ci, m_fs ad I L ci k 0 fs)
def m_wl (ad : Nat → Nat) (aC : FieldType → ClassId) (I : Nat → Nat → Int32) (L : Nat → Nat → Int64) : Nat → List mS → va_W
  | _, [] => []
  | k, e :: r => (ad k, m_ve ad aC I L k e) :: m_wl ad aC I L (k + 1) r
theorem m_fs_get {ad : Nat → Nat} {I : Nat → Nat → Int32} {L : Nat → Nat → Int64} {ci k : Nat} : ∀ (fs : List (Option (Option Nat))) (j0 j : Nat), (m_fs ad I L ci k j0 fs)[j]? = (fs[j]?).map (fun f => m_tr ad (m_fv I L ci k (j0 + j) f))
  | [], j0, j => by simp [m_fs]
  | f :: r, j0, 0 => by simp [m_fs]
  | f :: r, j0, j + 1 => by
    simp only [m_fs, List.getElem?_cons_succ, m_fs_get r (j0 + 1) j]
    rw [show j0 + 1 + j = j0 + (j + 1) by omega]
theorem m_fs_len {ad : Nat → Nat} {I : Nat → Nat → Int32} {L : Nat → Nat → Int64} {ci k : Nat} : ∀ (fs : List (Option (Option Nat))) (j0 : Nat), (m_fs ad I L ci k j0 fs).length = fs.length
  | [], j0 => rfl
  | f :: r, j0 => by simp [m_fs, m_fs_len r (j0 + 1)]
theorem m_wl_get {ad : Nat → Nat} {aC : FieldType → ClassId} {I : Nat → Nat → Int32} {L : Nat → Nat → Int64} : ∀ (sh : List mS) (k0 k : Nat), (m_wl ad aC I L k0 sh)[k]? = (sh[k]?).map (fun e => (ad (k0 + k), m_ve ad aC I L (k0 + k) e))
  | [], k0, k => by simp [m_wl]
  | e :: r, k0, 0 => by simp [m_wl]
  | e :: r, k0, k + 1 => by
    simp only [m_wl, List.getElem?_cons_succ, m_wl_get r (k0 + 1) k]
    rw [show k0 + 1 + k = k0 + (k + 1) by omega]
theorem m_fv_congr {I I' : Nat → Nat → Int32} {L L' : Nat → Nat → Int64} {ci k j : Nat} (hI : I' k j = I k j) (hL : L' k j = L k j) (f : Option (Option Nat)) : m_fv I' L' ci k j f = m_fv I L ci k j f := by
  rcases f with _ | _ | t <;> simp [m_fv, hI, hL]
theorem m_fs_congr {ad : Nat → Nat} {I I' : Nat → Nat → Int32} {L L' : Nat → Nat → Int64} {ci k : Nat} (hI : I' k = I k) (hL : L' k = L k) : ∀ (fs : List (Option (Option Nat))) (j0 : Nat), m_fs ad I' L' ci k j0 fs = m_fs ad I L ci k j0 fs
  | [], j0 => rfl
  | f :: r, j0 => by
    simp only [m_fs, m_fs_congr hI hL r (j0 + 1)]
    rw [m_fv_congr (by rw [hI]) (by rw [hL])]
theorem m_ve_congr {ad : Nat → Nat} {aC : FieldType → ClassId} {I I' : Nat → Nat → Int32} {L L' : Nat → Nat → Int64} {k : Nat} (hI : I' k = I k) (hL : L' k = L k) (e : mS) : m_ve ad aC I' L' k e = m_ve ad aC I L k e := by
  rcases e with ⟨ty, n⟩ | ⟨ci, fs⟩
  · simp only [m_ve, hI, hL]
  · simp only [m_ve, m_fs_congr hI hL]
theorem m_wl_set {ad : Nat → Nat} {aC : FieldType → ClassId} {I I' : Nat → Nat → Int32} {L L' : Nat → Nat → Int64} {sh sh' : List mS} {k : Nat} {e' : mS} (hk : k < sh.length) (hI : ∀ q, q ≠ k → I' q = I q) (hL : ∀ q, q ≠ k → L' q = L q) (hsh : ∀ n, sh'[n]? = if n = k then some e' else sh[n]?) :
    m_wl ad aC I' L' 0 sh' = (m_wl ad aC I L 0 sh).set k (ad k, m_ve ad aC I' L' k e') := by
  have hlen : ∀ (I : Nat → Nat → Int32) (L : Nat → Nat → Int64) (sh : List mS) (k0 : Nat), (m_wl ad aC I L k0 sh).length = sh.length := by
    intro I L sh
    induction sh with
    | nil => intro k0; rfl
    | cons x r ih => intro k0; simp [m_wl, ih (k0 + 1)]
  apply List.ext_getElem?
  intro n
  rw [m_wl_get, hsh n]
  by_cases hn : n = k
  · subst hn
    rw [if_pos rfl, List.getElem?_set_self (by rw [hlen]; exact hk)]
    simp
  · rw [if_neg hn, List.getElem?_set_ne (fun h => hn h.symm), m_wl_get]
    cases hs : sh[n]? with
    | none => rfl
    | some x =>
      simp only [Option.map_some, Nat.zero_add]
      rw [m_ve_congr (hI n hn) (hL n hn)]
theorem m_same {sh : List mS} {k : Nat} {e : mS} (h : sh[k]? = some e) : ∀ n, sh[n]? = if n = k then some e else sh[n]? := by
  intro n
  by_cases hn : n = k
  · subst hn; rw [if_pos rfl]; exact h
  · rw [if_neg hn]
theorem m_setAt {sh : List mS} {k : Nat} {e : mS} (h : k < sh.length) : ∀ n, (sh.set k e)[n]? = if n = k then some e else sh[n]? := by
  intro n
  by_cases hn : n = k
  · subst hn; rw [if_pos rfl, List.getElem?_set_self h]
  · rw [if_neg hn, List.getElem?_set_ne (fun q => hn q.symm)]
theorem m_up_ne {I : Nat → Nat → Int32} {k j : Nat} {x : Int32} (q : Nat) (h : q ≠ k) : m_up I k j x q = I q := by simp [m_up, va_up, h]
theorem m_upL_ne {L : Nat → Nat → Int64} {k j : Nat} {x : Int64} (q : Nat) (h : q ≠ k) : m_upL L k j x q = L q := by simp [m_upL, va_up, h]
theorem m_up_eq {I : Nat → Nat → Int32} {k j : Nat} {x : Int32} : m_up I k j x k = upd (I k) j x := by simp [m_up, va_up]
theorem m_upL_eq {L : Nat → Nat → Int64} {k j : Nat} {x : Int64} : m_upL L k j x k = vp_updL (L k) j x := by simp [m_upL, va_up]
theorem m_fs_put {ad : Nat → Nat} {I : Nat → Nat → Int32} {L : Nat → Nat → Int64} {ci k b : Nat} {x : Int32} {fs : List (Option (Option Nat))} (hf : fs[b]? = some none) (hl : m_isL ci b = false) :
    m_fs ad (m_up I k b x) L ci k 0 fs = (m_fs ad I L ci k 0 fs).set b (.int x) := by
  have hb : b < fs.length := (List.getElem?_eq_some_iff.mp hf).1
  apply List.ext_getElem?
  intro n
  rw [m_fs_get, Nat.zero_add]
  by_cases hn : n = b
  · subst hn
    rw [List.getElem?_set_self (by rw [m_fs_len]; exact hb), hf]
    simp [m_fv, hl, m_up_eq, upd, m_tr]
  · rw [List.getElem?_set_ne (fun h => hn h.symm), m_fs_get, Nat.zero_add]
    cases hs : fs[n]? with
    | none => rfl
    | some f =>
      simp only [Option.map_some]
      exact congrArg (fun z => some (m_tr ad z)) (m_fv_congr (by rw [m_up_eq]; simp [upd, hn]) rfl f)
theorem m_fs_putL {ad : Nat → Nat} {I : Nat → Nat → Int32} {L : Nat → Nat → Int64} {ci k b : Nat} {x : Int64} {fs : List (Option (Option Nat))} (hf : fs[b]? = some none) (hl : m_isL ci b = true) :
    m_fs ad I (m_upL L k b x) ci k 0 fs = (m_fs ad I L ci k 0 fs).set b (.long x) := by
  have hb : b < fs.length := (List.getElem?_eq_some_iff.mp hf).1
  apply List.ext_getElem?
  intro n
  rw [m_fs_get, Nat.zero_add]
  by_cases hn : n = b
  · subst hn
    rw [List.getElem?_set_self (by rw [m_fs_len]; exact hb), hf]
    simp [m_fv, hl, m_upL_eq, vp_updL, m_tr]
  · rw [List.getElem?_set_ne (fun h => hn h.symm), m_fs_get, Nat.zero_add]
    cases hs : fs[n]? with
    | none => rfl
    | some f =>
      simp only [Option.map_some]
      exact congrArg (fun z => some (m_tr ad z)) (m_fv_congr rfl (by rw [m_upL_eq]; simp [vp_updL, hn]) f)
theorem m_fs_putR {ad : Nat → Nat} {I : Nat → Nat → Int32} {L : Nat → Nat → Int64} {ci k b t : Nat} {fs : List (Option (Option Nat))} (hb : b < fs.length) :
    m_fs ad I L ci k 0 (fs.set b (some (some t))) = (m_fs ad I L ci k 0 fs).set b (.ref (ad t)) := by
  apply List.ext_getElem?
  intro n
  rw [m_fs_get, Nat.zero_add]
  by_cases hn : n = b
  · subst hn
    rw [List.getElem?_set_self hb, List.getElem?_set_self (by rw [m_fs_len]; exact hb)]
    simp [m_fv, m_tr]
  · rw [List.getElem?_set_ne (fun h => hn h.symm), List.getElem?_set_ne (fun h => hn h.symm), m_fs_get, Nat.zero_add]
theorem m_wl_app {ad : Nat → Nat} {aC : FieldType → ClassId} {I I' : Nat → Nat → Int32} {L L' : Nat → Nat → Int64} {sh : List mS} {e : mS} (hI : ∀ q, q < sh.length → I' q = I q) (hL : ∀ q, q < sh.length → L' q = L q) :
    m_wl ad aC I' L' 0 (sh ++ [e]) = m_wl ad aC I L 0 sh ++ [(ad sh.length, m_ve ad aC I' L' sh.length e)] := by
  have hlen : ∀ (I : Nat → Nat → Int32) (L : Nat → Nat → Int64) (sh : List mS) (k0 : Nat), (m_wl ad aC I L k0 sh).length = sh.length := by
    intro I L sh
    induction sh with
    | nil => intro k0; rfl
    | cons x r ih => intro k0; simp [m_wl, ih (k0 + 1)]
  apply List.ext_getElem?
  intro n
  rw [m_wl_get, Nat.zero_add]
  by_cases hn : n < sh.length
  · rw [List.getElem?_append_left hn, List.getElem?_append_left (by rw [hlen]; exact hn), m_wl_get, Nat.zero_add]
    cases hs : sh[n]? with
    | none => rfl
    | some f =>
      simp only [Option.map_some]
      rw [m_ve_congr (hI n hn) (hL n hn)]
  · rw [List.getElem?_append_right (by omega), List.getElem?_append_right (by rw [hlen]; omega), hlen]
    by_cases h0 : n = sh.length
    · subst h0; simp
    · have h1 : n - sh.length = (n - sh.length - 1) + 1 := by omega
      rw [h1]; simp
theorem m_wl_D {ad : Nat → Nat} {aC : FieldType → ClassId} {I : Nat → Nat → Int32} {L : Nat → Nat → Int64} {sh : List mS} {base : Nat} (had : ∀ k, k < 1000000 → ad k = base + k) (hlen : sh.length ≤ 1000) : va_D (fun q => base ≤ q) (m_wl ad aC I L 0 sh) := by
  have key : ∀ (k : Nat) (q : Nat × va_E), (m_wl ad aC I L 0 sh)[k]? = some q → q.1 = base + k ∧ k < sh.length := by
    intro k q h
    rw [m_wl_get, Nat.zero_add] at h
    cases hs : sh[k]? with
    | none => rw [hs] at h; cases h
    | some x =>
      rw [hs] at h
      have hk := (List.getElem?_eq_some_iff.mp hs).1
      simp only [Option.map_some, Option.some.injEq] at h
      rw [← h]
      exact ⟨had k (by omega), hk⟩
  refine ⟨fun i j x y hi hj hxy => ?_, fun k q hk => ?_⟩
  · have h1 := (key i x hi).1
    have h2 := (key j y hj).1
    omega
  · rw [(key k q hk).1]
    exact Nat.le_add_right _ _
/-! what each class is -/
theorem m_cl : ∀ ci, ci ≤ 9 → vwCl[ci]? = some (m_RR ci, m_TT ci, m_NN ci) := by
  intro ci h
  match ci, h with
  | 0, _ => rfl | 1, _ => rfl | 2, _ => rfl | 3, _ => rfl | 4, _ => rfl | 5, _ => rfl | 6, _ => rfl | 7, _ => rfl | 8, _ => rfl | 9, _ => rfl
theorem m_lay : ∀ ci, ci ≤ 9 → ∀ w ∈ u_ws (m_RR ci) (m_TT ci) (m_NN ci), w ∈ m_ws := by
  intro ci h
  match ci, h with
  | 0, _ => exact m_lay0 | 1, _ => exact m_lay1 | 2, _ => exact m_lay2 | 3, _ => exact m_lay3 | 4, _ => exact m_lay4 | 5, _ => exact m_lay5 | 6, _ => exact m_lay6 | 7, _ => exact m_lay7 | 8, _ => exact m_lay8 | 9, _ => exact m_lay9
theorem m_tyok : ∀ ci, ci ≤ 9 → ∀ k, k < m_NN ci → parseFieldDescriptor (m_TT ci k).2.2.1 = some (m_ty ci k) := by
  intro ci h
  match ci, h with
  | 0, _ => exact tyX0_ok | 1, _ => exact tyX1_ok | 2, _ => exact tyX2_ok | 3, _ => exact tyX3_ok | 4, _ => exact tyX4_ok | 5, _ => exact tyX5_ok | 6, _ => exact tyX6_ok | 7, _ => exact tyX7_ok | 8, _ => exact tyX8_ok | 9, _ => exact tyX9_ok
theorem m_nmok : ∀ ci, ci ≤ 9 → ∀ a, a < m_NN ci → ∀ b, b < m_NN ci → a ≠ b → (m_TT ci a).2.1 ≠ (m_TT ci b).2.1 := by
  intro ci h
  match ci, h with
  | 0, _ => exact nmX0 | 1, _ => exact nmX1 | 2, _ => exact nmX2 | 3, _ => exact nmX3 | 4, _ => exact nmX4 | 5, _ => exact nmX5 | 6, _ => exact nmX6 | 7, _ => exact nmX7 | 8, _ => exact nmX8 | 9, _ => exact nmX9
/-- fields of references are final, others aren't; each is of its own class -/
def m_fin (ci b : Nat) : Bool := match m_ty ci b with
  | .object _ => (m_TT ci b).2.2.2
  | .array _ => (m_TT ci b).2.2.2
  | _ => !(m_TT ci b).2.2.2
theorem m_finok : ∀ ci, ci < 10 → ∀ b, b < m_NN ci → m_fin ci b = true := by decide +kernel
theorem m_decl : ∀ ci, ci < 10 → ∀ b, b < m_NN ci → (m_TT ci b).1 = m_RR ci := by decide +kernel
theorem m_lkF_in : ∀ q ∈ m_lkF, q.2.2.1 ≤ 9 ∧ q.2.2.2 < m_NN q.2.2.1 := by decide +kernel
theorem m_lkN_in : ∀ q ∈ m_lkN, q.2.2.1 ≤ 9 ∧ q.2.2.2 < m_NN q.2.2.1 := by decide +kernel
theorem m_lkC_in : ∀ q ∈ m_lkC, q.2.2 ≤ 9 := by decide +kernel
def m_isN : Cond → Bool
  | .fieldLinkNest .. => true
  | .methodLinkNest .. => true
  | _ => false
def m_nest : List Cond := lw_tbl.filter m_isN
def m_tys (aC : FieldType → ClassId) : List (ClassId × FieldType) := [(aC .byte, .byte), (aC .char, .char), (aC .int, .int), (aC .long, .long), (aC .short, .short), (aC .boolean, .boolean)]
def m_slen : List Nat := m_strT.map String.length
def m_sbyt : List (List Int32) := m_strT.map (fun t => t.toList.map (fun ch => Int32.ofNat ch.toNat))
/-- what holds of the machine beside the world: the tables, the private members of nest mates, the script, the String constants -/
def m_Ctx (ad : Nat → Nat) (aC : FieldType → ClassId) (dC : Nat → ClassId) (dI : Nat → Nat → Nat) (base XL : Nat) (XS : Nat → Int32) (U : State) : Prop :=
  va_K (dC, dI) vwCl (m_tys aC) U ∧ (∀ w ∈ m_nest, va_Nw w U) ∧ (va_X (ad 3000000) XL XS U U.heap ∧ ad 3000000 < base) ∧ (∀ i, i < 15 → vk_R RX6 (m_strL.getD i 0) (m_strT.getD i "") (ad (1000000 + i)) U) ∧
  vk_S 15 m_slen m_sbyt (fun i => ad (1000000 + i)) (fun i => ad (2000000 + i)) (fun q => base ≤ q) U U.heap ∧ va_Z "java/lang/String" "COMPACT_STRINGS" "Z" (.int 1) (fun q => base ≤ q) U U.heap ∧ va_Zq "jdk/internal/util/Preconditions" "SIOOBE_FORMATTER" "Ljava/util/function/BiFunction;" (fun q => base ≤ q) U U.heap ∧ base ≤ U.heap.size
theorem m_Ctx.move {ad : Nat → Nat} {aC : FieldType → ClassId} {dC : Nat → ClassId} {dI : Nat → Nat → Nat} {base XL : Nat} {XS : Nat → Int32} {s U : State} (h : m_Ctx ad aC dC dI base XL XS s) (hW : s.WarmedH U.vm) (hq : ∀ q, q < base → U.heap[q]? = s.heap[q]?) (hz : base ≤ U.heap.size) : m_Ctx ad aC dC dI base XL XS U := by
  obtain ⟨h1, h2, ⟨h3, h4⟩, h5, h6, h7, h8, h9⟩ := h
  have hk : ∀ a : Nat, a < s.heap.size → ¬ base ≤ a → U.heap[a]? = s.heap[a]? := fun a _ hn => hq a (by omega)
  refine ⟨va_K.moved hW.alike h1, fun w hw => ?_, ⟨(va_X.moved hW.alike h3).kept (hq _ h4), h4⟩, fun i hi => (h5 i hi).warm hW, (vk_S.moved hW.alike h6).kept hk, (va_Z.moved hW.alike h7).kept hk, (va_Zq.moved hW.alike h8).kept hk, hz⟩
  have hn := (List.mem_filter.mp hw).2
  have := h2 w hw
  cases w <;> first | (cases hn; done) | exact va_Nw.warmF hW this | exact va_Nw.warmM hW this
theorem m_Ctx.call {ad : Nat → Nat} {aC : FieldType → ClassId} {dC : Nat → ClassId} {dI : Nat → Nat → Nat} {base XL : Nat} {XS : Nat → Int32} {U : State} (h : m_Ctx ad aC dC dI base XL XS U) (g : JFrame) (mk : MethodId) (a : Array Value) : m_Ctx ad aC dC dI base XL XS (U.calling g mk a) := by
  obtain ⟨h1, h2, ⟨h3, h4⟩, h5, h6, h7, h8, h9⟩ := h
  have hal : U.vm.Alike (U.calling g mk a).vm := Vm.Alike.refl U.vm
  refine ⟨va_K.moved hal h1, fun w hw => ?_, ⟨va_X.moved hal h3, h4⟩, fun i hi => (h5 i hi).same rfl, vk_S.moved hal h6, va_Z.moved hal h7, va_Zq.moved hal h8, h9⟩
  have hn := (List.mem_filter.mp hw).2
  have := h2 w hw
  cases w <;> first | (cases hn; done) | exact va_Nw.same rfl rfl this
