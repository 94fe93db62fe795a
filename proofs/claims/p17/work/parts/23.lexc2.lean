/-! ===== the class cuts a token ===== -/
def pkB (B : Nat) (l : List Nat) : Nat := l.foldl (fun a c => a * B + c) 0
def slice (tx : List Nat) (i e : Nat) : List Nat := (tx.drop i).take (e - i)
def wordL : List (List Nat) := m_strT.map (fun t => t.toList.map Char.toNat)
/-- the words' numbers, from 0; 15 where there is none -/
def wordIx (cs : List Nat) : Nat := wordL.idxOf cs
def decV (l : List Nat) : Nat := l.foldl (fun a c => a * 10 + (c - 48)) 0
/-- kind, place, signs, number, end -/
abbrev Tok : Type := Nat × Nat × List Nat × Nat × Nat
def sgN (x : Int32) : Nat := if x = 44 then 23 else if x = 45 then 25 else if x = 58 then 21 else if x = 59 then 22 else if x = 61 then 24 else if x = 123 then 19 else if x = 125 then 20 else 28
theorem sgK_N (x : Int32) : sgK x = nI (sgN x) := by
  unfold sgK sgN
  repeat' split
  all_goals rfl
def tokAt (tx : List Nat) (i : Nat) : Tok :=
  if tx.length ≤ i then (27, i, [], 0, i)
  else if isSm (toc tx i) = 1 then (if 8 < scan qN tx i - i then (28, i, [], 0, i) else (wordIx (slice tx i (scan qN tx i)) + 1, i, slice tx i (scan qN tx i), 0, scan qN tx i))
  else if isFg (toc tx i) = 1 then (if 9 < scan qF tx i - i then (28, i, [], 0, i) else (17, i, [], decV (slice tx i (scan qF tx i)), scan qF tx i))
  else if toc tx i = 34 then (if toc tx (scan qT tx (i + 1)) = 34 ∧ scan qT tx (i + 1) - (i + 1) ≤ 8 then (18, i, slice tx (i + 1) (scan qT tx (i + 1)), 0, scan qT tx (i + 1) + 1) else (28, i, [], 0, i))
  else if toc tx i = 45 ∧ toc tx (i + 1) = 62 then (26, i, [], 0, i + 2)
  else if sgN (toc tx i) = 28 then (28, i, [], 0, i) else (sgN (toc tx i), i, [], 0, i + 1)
theorem slice_succ {tx : List Nat} {i e : Nat} (h : i < e) (he : e ≤ tx.length) : slice tx i e = tx.getD i 0 :: slice tx (i + 1) e := by
  unfold slice
  have hi : i < tx.length := by omega
  rw [List.drop_eq_getElem_cons hi, show e - i = (e - (i + 1)) + 1 by omega, List.take_succ_cons]
  simp [List.getD_eq_getElem?_getD, List.getElem?_eq_getElem hi]
theorem slice_nil {tx : List Nat} {i e : Nat} (h : e ≤ i) : slice tx i e = [] := by
  unfold slice
  rw [show e - i = 0 by omega]
  rfl
theorem foldB (B : Nat) : ∀ (l : List Nat) (a : Nat), l.foldl (fun a c => a * B + c) a = a * B ^ l.length + pkB B l
  | [], a => by simp [pkB]
  | c :: r, a => by
    simp only [List.foldl_cons, List.length_cons, pkB]
    rw [foldB B r (a * B + c), foldB B r (0 * B + c)]
    rw [Nat.pow_succ, Nat.add_mul, Nat.zero_mul, Nat.zero_add, Nat.mul_assoc, Nat.mul_comm B (B ^ r.length), Nat.add_assoc]
theorem pkB_cons (B c : Nat) (r : List Nat) : pkB B (c :: r) = c * B ^ r.length + pkB B r := by
  show r.foldl (fun a c => a * B + c) (0 * B + c) = _
  rw [foldB B r, Nat.zero_mul, Nat.zero_add]
theorem pkB_lt {B : Nat} : ∀ (l : List Nat), (∀ c ∈ l, c < B) → pkB B l < B ^ l.length
  | [], _ => by simp [pkB]
  | c :: r, h => by
    rw [pkB_cons, List.length_cons, Nat.pow_succ]
    have h1 := pkB_lt r (fun x hx => h x (List.mem_cons_of_mem _ hx))
    have h2 := h c List.mem_cons_self
    have h3 : (c + 1) * B ^ r.length ≤ B * B ^ r.length := Nat.mul_le_mul_right _ (by omega)
    rw [Nat.add_mul, Nat.one_mul] at h3
    rw [Nat.mul_comm (B ^ r.length) B]
    omega
/-- signs that aren't 0 are told apart by what is packed of them -/
theorem pkB_inj {B : Nat} : ∀ (l k : List Nat), (∀ c ∈ l, 0 < c ∧ c < B) → (∀ c ∈ k, 0 < c ∧ c < B) → pkB B l = pkB B k → l = k := by
  have pos : ∀ (c : Nat) (r : List Nat), 0 < c → B ^ r.length ≤ pkB B (c :: r) := by
    intro c r h
    rw [pkB_cons]
    have : 1 * B ^ r.length ≤ c * B ^ r.length := Nat.mul_le_mul_right _ h
    omega
  have lenEq : ∀ (l k : List Nat), (∀ c ∈ l, 0 < c ∧ c < B) → (∀ c ∈ k, 0 < c ∧ c < B) → pkB B l = pkB B k → l.length = k.length := by
    intro l k hl hk he
    have key : ∀ (l k : List Nat), (∀ c ∈ l, 0 < c ∧ c < B) → (∀ c ∈ k, 0 < c ∧ c < B) → l.length < k.length → pkB B l < pkB B k := by
      intro l k hl hk hlt
      cases k with
      | nil => simp at hlt
      | cons c r =>
        have h1 := pkB_lt l (fun x hx => (hl x hx).2)
        have h2 := pos c r (hk c List.mem_cons_self).1
        have h3 : B ^ l.length ≤ B ^ r.length := Nat.pow_le_pow_right (by have := hk c List.mem_cons_self; omega) (by simp only [List.length_cons] at hlt; omega)
        omega
    rcases Nat.lt_trichotomy l.length k.length with h | h | h
    · have := key l k hl hk h; omega
    · exact h
    · have := key k l hk hl h; omega
  intro l
  induction l with
  | nil =>
    intro k hl hk he
    have := lenEq [] k hl hk he
    cases k with
    | nil => rfl
    | cons c r => simp at this
  | cons c r ih =>
    intro k hl hk he
    have hlen := lenEq (c :: r) k hl hk he
    cases k with
    | nil => simp at hlen
    | cons c2 r2 =>
      simp only [List.length_cons, Nat.add_right_cancel_iff] at hlen
      rw [pkB_cons, pkB_cons, hlen] at he
      have h1 := pkB_lt r (fun x hx => (hl x (List.mem_cons_of_mem _ hx)).2)
      have h2 := pkB_lt r2 (fun x hx => (hk x (List.mem_cons_of_mem _ hx)).2)
      rw [hlen] at h1
      have hp : 0 < B ^ r2.length := Nat.lt_of_le_of_lt (Nat.zero_le _) h2
      have hc : c = c2 := by
        have e1 : (c * B ^ r2.length + pkB B r) / B ^ r2.length = c := by
          rw [Nat.mul_comm, Nat.mul_add_div hp, Nat.div_eq_of_lt h1, Nat.add_zero]
        have e2 : (c2 * B ^ r2.length + pkB B r2) / B ^ r2.length = c2 := by
          rw [Nat.mul_comm, Nat.mul_add_div hp, Nat.div_eq_of_lt h2, Nat.add_zero]
        rw [← e1, ← e2, he]
      subst hc
      have hr : pkB B r = pkB B r2 := by omega
      rw [ih r2 (fun x hx => hl x (List.mem_cons_of_mem _ hx)) (fun x hx => hk x (List.mem_cons_of_mem _ hx)) hr]
theorem toc_lt {tx : List Nat} {i : Nat} (h : i < tx.length) : toc tx i = nI (tx.getD i 0) := by unfold toc; rw [if_pos h]
theorem tx_lt {tx : List Nat} (ht : TxOk tx) (i : Nat) : tx.getD i 0 < 256 := by
  rw [List.getD_eq_getElem?_getD]
  cases h : tx[i]? with
  | none => simp
  | some c => simpa using ht.2 c (List.mem_of_getElem? h)
/-- eight signs at the most, packed, are a long -/
theorem pkF_eq {tx : List Nat} (ht : TxOk tx) : ∀ (m i a : Nat), i + m ≤ tx.length → a * 256 ^ m + pkB 256 (slice tx i (i + m)) < 2 ^ 64 → pkF tx m i (lN a) = lN (a * 256 ^ m + pkB 256 (slice tx i (i + m)))
  | 0, i, a, h, hb => by simp [pkF, slice, pkB]
  | m + 1, i, a, h, hb => by
    have hs := slice_succ (tx := tx) (i := i) (e := i + (m + 1)) (by omega) (by omega)
    rw [show i + (m + 1) = i + 1 + m by omega] at hs hb ⊢
    have hlen : (slice tx (i + 1) (i + 1 + m)).length = m := by
      unfold slice
      rw [List.length_take, List.length_drop]
      omega
    rw [hs, pkB_cons, hlen] at hb ⊢
    have hc := tx_lt ht i
    have e0 : a * 256 ^ (m + 1) = a * 256 * 256 ^ m := by rw [Nat.pow_succ, Nat.mul_comm (256 ^ m) 256, Nat.mul_assoc]
    rw [e0] at hb ⊢
    have e1 : a * 256 * 256 ^ m + (tx.getD i 0 * 256 ^ m + pkB 256 (slice tx (i + 1) (i + 1 + m))) = (a * 256 + tx.getD i 0) * 256 ^ m + pkB 256 (slice tx (i + 1) (i + 1 + m)) := by
      rw [Nat.add_mul]
      exact (Nat.add_assoc _ _ _).symm
    rw [e1] at hb ⊢
    have ha : a * 256 + tx.getD i 0 < 2 ^ 64 := by
      have : (a * 256 + tx.getD i 0) * 1 ≤ (a * 256 + tx.getD i 0) * 256 ^ m := Nat.mul_le_mul_left _ (Nat.pow_pos (by decide))
      omega
    have e2 : (lN a <<< ((8 : Int32).toInt64 &&& 63)) ||| (toc tx i).toInt64 = lN (a * 256 + tx.getD i 0) := by
      have s1 : lN a <<< ((8 : Int32).toInt64 &&& 63) = lN (a * 256) := wb_shl a (k := 8) (by decide)
      have s2 : a * 256 < 2 ^ 64 := Nat.lt_of_le_of_lt (Nat.le_add_right _ _) ha
      have s3 : tx.getD i 0 < 2 ^ 64 := Nat.lt_trans hc (by decide)
      rw [toc_lt (by omega), nI_l (Nat.lt_trans hc (by decide)), s1, wb_or s2 s3]
      congr 1
      rw [Nat.mul_comm a 256]
      exact (Nat.two_pow_add_eq_or_of_lt (i := 8) hc a).symm
    show pkF tx m (i + 1) _ = _
    rw [e2]
    exact pkF_eq ht m (i + 1) _ (by omega) hb
