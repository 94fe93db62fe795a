/-! ===== the reference's world and that state ===== -/
def S_st : Nat → Nat → Bool := fun p q => (p == 30 && (q == 3 || q == 4 || q == 5 || q == 7 || q == 8 || q == 9 || q == 26 || q == 33 || q == 35 || q == 36 || q == 44 || q == 45)) || (41 ≤ p && p ≤ 43) || (45 ≤ p && p ≤ 51)
def S_stL : Nat → Nat → Bool := fun p q => (p == 30 && q == 6) || p == 44
def RTok (tx : List Nat) (k : Nat) (I : Nat → Nat → Int32) (L : Nat → Nat → Int64) : Prop := MT (tk tx k) I L ∧ (¬ (tk tx k).1 = 28 → I 30 3 = nI (tke tx (k + 1)))
/-- a step of the class's code, as the reference has it -/
def mcd (x : Int32 × Int32 × Int32) : Int32 × Int32 × Int32 :=
  if x.1 = 0 then (0, x.2.1, 0) else if x.1 = 1 then (1, x.2.1, 0) else if x.1 = 2 then (2, x.2.1, x.2.2) else if x.1 = 3 then (6, x.2.1, 0) else if x.1 = 4 then (7, x.2.1, 0)
  else if x.2.1 = 1 then (3, 0, 0) else if x.2.1 = 2 then (4, x.2.2, 0) else (5, x.2.2, 0)
/-- kind, what was SET, a number -/
abbrev Fm : Type := Nat × Int32 × Nat
def dep : List Fm → Nat
  | [] => 0
  | x :: r => (if x.1 = 1 ∨ x.1 = 2 ∨ x.1 = 3 then 1 else 0) + dep r
def bitsB (c : Nat) (x : Int32) : Prop := ∃ b, b < 2 ^ c ∧ x = nI b
def kAt (cd : List (Int32 × Int32 × Int32)) (i : Nat) (k : Int32) : Prop := cd[i]?.map (fun x => x.1) = some k
def FrS (I : Nat → Nat → Int32) (n : List (Int32 × Int32 × Int32)) : Nat → List Fm → Prop
  | _, [] => True
  | c, x :: r => (x.1 < 5 ∧ I 45 r.length = nI x.1) ∧ (x.1 = 1 → I 47 r.length = nI x.2.2 ∧ x.2.2 ≤ c) ∧ (x.1 = 2 → I 48 r.length = x.2.1 ∧ I 50 r.length = nI x.2.2 ∧ kAt n x.2.2 3 ∧ bitsB c x.2.1) ∧
    (x.1 = 3 → I 49 r.length = x.2.1 ∧ I 51 r.length = nI x.2.2 ∧ kAt n x.2.2 4 ∧ (x.2.1 = -1 ∨ bitsB c x.2.1) ∧ I 46 r.length = (if x.2.1 = -1 then 0 else 1)) ∧ FrS I n (if x.1 = 1 then x.2.2 else c) r
def RNm (s : JSt) (I : Nat → Nat → Int32) (L : Nat → Nat → Int64) : Prop := I 30 35 = nI s.nm.length ∧ s.nm.length ≤ 20 ∧ (∀ j, j < s.nm.length → L 44 j = lN (pkB 128 (s.nm.getD j []))) ∧ (∀ c ∈ s.nm, NmOk c)
def RCd (s : JSt) (I : Nat → Nat → Int32) : Prop := I 30 33 = nI s.cd.length ∧ (∀ j x, s.cd[j]? = some x → (I 41 j, I 42 j, I 43 j) = mcd x)
def RK (st : List Fm) (s : JSt) (I : Nat → Nat → Int32) : Prop := I 30 44 = nI st.length ∧ I 30 45 = nI (dep st) ∧ st.length ≤ 20 ∧ dep st ≤ 20 ∧ FrS I s.cd s.nm.length st
def RS (tx : List Nat) (m : Nat) (u0 : JU) (st : List Fm) (s : JSt) (I : Nat → Nat → Int32) (L : Nat → Nat → Int64) : Prop := (RTok tx s.k I L ∧ I 30 8 = 0 ∧ s.k ≤ m) ∧ (I 30 26 = nI s.sm ∧ s.sm ≤ 120) ∧ (I 30 36 = s.set ∧ I 30 16 = s.val ∧ s.u = u0) ∧ RNm s I L ∧ RCd s I ∧ RK st s I
def RE (b : Nat) (e : Nat × Nat) (I : Nat → Nat → Int32) : Prop := e.1 ≠ 0 ∧ e.1 ≤ 12 ∧ I 30 8 = nI e.1 ∧ I 30 9 = nI e.2 ∧ ∃ c, c ≤ b ∧ I 30 33 = nI c
/-- a row of truths holds 0 and 1 alone -/
def BB (I : Nat → Nat → Int32) : Prop := ∀ j, I 46 j = 0 ∨ I 46 j = 1
theorem BB.up {I : Nat → Nat → Int32} {k j : Nat} {v : Int32} (h : BB I) (hv : k = 46 → v = 0 ∨ v = 1) : BB (m_up I k j v) := by
  intro i
  rw [m_upr]
  by_cases e : 46 = k
  · subst e
    rw [if_pos rfl]
    by_cases e2 : i = j
    · rw [if_pos e2]; exact hv rfl
    · rw [if_neg e2]; exact h i
  · rw [if_neg e]; exact h i
theorem BB.of {I I' : Nat → Nat → Int32} (h : BB I) (e : ∀ j, I' 46 j = I 46 j) : BB I' := fun j => by rw [e j]; exact h j
def RX (tx : List Nat) (m : Nat) (I0 : Nat → Nat → Int32) (L0 : Nat → Nat → Int64) (u0 : JU) (b : Nat) (st : List Fm) (r : JRs) (I : Nat → Nat → Int32) (L : Nat → Nat → Int64) : Prop :=
  (TxOk tx ∧ TkM tx m ∧ m ≤ tx.length ∧ TxM tx I0 ∧ WdM L0) ∧ (Fr S_st I0 I ∧ BB I) ∧ Fr S_stL L0 L ∧ b ≤ 600 ∧ (match r with
  | .ok s => RS tx m u0 st s I L ∧ s.cd.length ≤ b
  | .error e => RE b e I)
/-! what the token is -/
def tcl (k : Nat) : Int32 := if k < 16 then 5 else if k = 16 then 1 else if k = 17 then 2 else if k = 18 then 3 else if k ≤ 26 then 4 else if k = 27 then 0 else 6
theorem MT.cl {t : Tok} {I : Nat → Nat → Int32} {L : Nat → Nat → Int64} (h : MT t I L) (ht : t.1 < 29) : I 30 4 = tcl t.1 := by
  obtain ⟨-, h27, h28, hw, h16, h17, h18, h19, h20, h21, h22, h23, h24, h25, h26⟩ := h
  unfold tcl
  repeat' split
  · exact (hw (by assumption)).1
  · exact (h16 (by assumption)).1
  · exact (h17 (by assumption)).1
  · exact (h18 (by assumption)).1
  · have : t.1 = 19 ∨ t.1 = 20 ∨ t.1 = 21 ∨ t.1 = 22 ∨ t.1 = 23 ∨ t.1 = 24 ∨ t.1 = 25 ∨ t.1 = 26 := by omega
    rcases this with g | g | g | g | g | g | g | g
    · exact (h19 g).1
    · exact (h20 g).1
    · exact (h21 g).1
    · exact (h22 g).1
    · exact (h23 g).1
    · exact (h24 g).1
    · exact (h25 g).1
    · exact (h26 g).1
  · exact h27 (by assumption)
  · exact h28 (by omega)
theorem MT.sgv {t : Tok} {I : Nat → Nat → Int32} {L : Nat → Nat → Int64} (h : MT t I L) (h1 : 19 ≤ t.1) (h2 : t.1 ≤ 26) : I 30 7 = sgC t.1 := by
  obtain ⟨-, h27, h28, hw, h16, h17, h18, h19, h20, h21, h22, h23, h24, h25, h26⟩ := h
  have : t.1 = 19 ∨ t.1 = 20 ∨ t.1 = 21 ∨ t.1 = 22 ∨ t.1 = 23 ∨ t.1 = 24 ∨ t.1 = 25 ∨ t.1 = 26 := by omega
  rcases this with g | g | g | g | g | g | g | g
  · rw [(h19 g).2, g]; rfl
  · rw [(h20 g).2, g]; rfl
  · rw [(h21 g).2, g]; rfl
  · rw [(h22 g).2, g]; rfl
  · rw [(h23 g).2, g]; rfl
  · rw [(h24 g).2, g]; rfl
  · rw [(h25 g).2, g]; rfl
  · rw [(h26 g).2, g]; rfl
theorem tcl_sg {k : Nat} (hk : k < 29) : tcl k = 4 ↔ 19 ≤ k ∧ k ≤ 26 := by
  have : ∀ k : Fin 29, tcl k.val = 4 ↔ 19 ≤ k.val ∧ k.val ≤ 26 := by decide +kernel
  exact this ⟨k, hk⟩
theorem tcl_eq {k : Nat} (hk : k < 29) : (tcl k = 5 ↔ k < 16) ∧ (tcl k = 1 ↔ k = 16) ∧ (tcl k = 2 ↔ k = 17) ∧ (tcl k = 3 ↔ k = 18) ∧ (tcl k = 0 ↔ k = 27) ∧ (tcl k = 6 ↔ k = 28) := by
  have : ∀ k : Fin 29, (tcl k.val = 5 ↔ k.val < 16) ∧ (tcl k.val = 1 ↔ k.val = 16) ∧ (tcl k.val = 2 ↔ k.val = 17) ∧ (tcl k.val = 3 ↔ k.val = 18) ∧ (tcl k.val = 0 ↔ k.val = 27) ∧ (tcl k.val = 6 ↔ k.val = 28) := by decide +kernel
  exact this ⟨k, hk⟩
theorem MT.sign {t : Tok} {I : Nat → Nat → Int32} {L : Nat → Nat → Int64} {k : Nat} (h : MT t I L) (ht : t.1 < 29) (h1 : 19 ≤ k) (h2 : k ≤ 26) : isSgF (sgC k) I = if t.1 = k then 1 else 0 := by
  unfold isSgF
  rw [h.cl ht]
  by_cases g : 19 ≤ t.1 ∧ t.1 ≤ 26
  · rw [if_pos ((tcl_sg ht).mpr g), h.sgv g.1 g.2]
    have : ∀ a b : Fin 27, 19 ≤ a.val → 19 ≤ b.val → (sgC a.val = sgC b.val ↔ a.val = b.val) := by decide +kernel
    have := this ⟨t.1, by omega⟩ ⟨k, by omega⟩ g.1 h1
    by_cases e : t.1 = k
    · rw [if_pos e, if_pos (this.mpr e)]
    · rw [if_neg e, if_neg (fun z => e (this.mp z))]
  · rw [if_neg (fun z => g ((tcl_sg ht).mp z)), if_neg (by omega)]
theorem MT.word {t : Tok} {I : Nat → Nat → Int32} {L : Nat → Nat → Int64} {w : Nat} (h : MT t I L) (ht : t.1 < 29) (h0 : 0 < t.1) (hw : w < 15) : isWdF (nI w) I = if t.1 = w + 1 then 1 else 0 := by
  unfold isWdF
  rw [h.cl ht]
  by_cases g : t.1 < 16
  · rw [if_pos ((tcl_eq ht).1.mpr g), (h.2.2.2.1 g).2]
    have e := nI_eq (a := t.1 - 1) (b := w) (by omega) (by omega)
    by_cases q : t.1 = w + 1
    · rw [if_pos q, if_pos (e.mpr (by omega))]
    · rw [if_neg q, if_neg (fun z => q (by have := e.mp z; omega))]
  · rw [if_neg (fun z => g ((tcl_eq ht).1.mp z)), if_neg (by omega)]
theorem tok_pos (tx : List Nat) (i : Nat) : 0 < (tokAt tx i).1 := by
  unfold tokAt
  repeat' split
  all_goals simp only
  all_goals first | omega | (have := (sgN_C (by assumption)).2.1; omega)
theorem tk_pos (tx : List Nat) (k : Nat) : 0 < (tk tx k).1 := tok_pos tx _
theorem tk_29 (tx : List Nat) (k : Nat) : (tk tx k).1 < 29 := tok_lt29 tx _
theorem tke_le {tx : List Nat} {m : Nat} (hm : TkM tx m) : ∀ k, k ≤ m → tke tx k ≤ tx.length
  | 0, _ => Nat.zero_le _
  | k + 1, hk => by
    have h1 := tke_le hm k (by omega)
    have hb := scan_le (q := qB) h1
    have h2 := hm.2 k (by omega)
    have hlt : scan qB tx (tke tx k) < tx.length := by
      by_cases hz : scan qB tx (tke tx k) < tx.length
      · exact hz
      · exact absurd ((tk_27 (by omega)).mpr (by omega)) h2.1
    exact (tokAt_end hlt h2.2).2.1
theorem r_nextK {XL : Nat} {XS : Nat → Int32} {n : Nat} {C : mC} {I : Nat → Nat → Int32} {L : Nat → Nat → Int64} {K : mK} {tx : List Nat} {m k : Nat} (hC : m_Ge XL XS (n + 3) C) (ht : TxOk tx) (hm : TkM tx m) (hk : k < m) (hT : TxM tx I) (hw : WdM L) (h3 : I 30 3 = nI (tke tx (k + 1)))
    (hK : ∀ I' L', RTok tx (k + 1) I' L' → Fr S_nx I I' → Fr S_nxL L L' → K none (m_SH, I', L')) : C 107 [.ref 30] (m_SH, I, L) K :=
  r_next hC ht hT hw (tke_le hm _ hk) h3 (fun I' L' a b c d => hK I' L' ⟨a, b⟩ c d)
