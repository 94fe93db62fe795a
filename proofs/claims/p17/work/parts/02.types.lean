/-! ===== THE SMALL MACHINE: objects by their number in the order of their making, ints and longs in two functions; a least fixed point of one step ===== -/
abbrev mS : Type := (FieldType × Nat) ⊕ (Nat × List (Option (Option Nat)))
abbrev mW : Type := List mS × (Nat → Nat → Int32) × (Nat → Nat → Int64)
abbrev mI : Type := Nat × Instr × Nat × Nat × Nat × Value × List (Int32 × Nat)
abbrev mL : Type := List (Nat × List mI)
abbrev mT : Type := Nat × List (Option Value) × List Value × mW × Nat × Nat
abbrev mK : Type := Option Value → mW → Prop
abbrev mC : Type := Nat → List Value → mW → mK → Prop
def m_nth {α : Type} : List α → Nat → Option α
  | [], _ => none
  | a :: _, 0 => some a
  | _ :: l, n + 1 => m_nth l n
theorem m_nth_eq {α : Type} : ∀ (l : List α) (n : Nat), m_nth l n = l[n]?
  | [], n => by simp [m_nth]
  | a :: l, 0 => by simp [m_nth]
  | a :: l, n + 1 => by simp [m_nth, m_nth_eq l n]
def m_seek : List mI → Nat → Option mI
  | [], _ => none
  | q :: l, pc => match Nat.beq q.1 pc with
    | true => some q
    | false => m_seek l pc
def m_at : mL → Nat → Option mI
  | [], _ => none
  | q :: r, pc => match Nat.blt pc q.1 with
    | true => m_seek q.2 pc
    | false => m_at r pc
theorem m_seek_mem : ∀ (l : List mI) (pc : Nat) (q : mI), m_seek l pc = some q → q ∈ l ∧ q.1 = pc
  | [], pc, q, h => by simp [m_seek] at h
  | x :: l, pc, q, h => by
    unfold m_seek at h
    split at h
    · rename_i hb
      cases h
      exact ⟨List.mem_cons_self, Nat.eq_of_beq_eq_true hb⟩
    · obtain ⟨h1, h2⟩ := m_seek_mem l pc q h
      exact ⟨List.mem_cons_of_mem _ h1, h2⟩
theorem m_at_mem : ∀ (l : mL) (pc : Nat) (q : mI), m_at l pc = some q → (∃ c ∈ l, q ∈ c.2) ∧ q.1 = pc
  | [], pc, q, h => by simp [m_at] at h
  | x :: l, pc, q, h => by
    unfold m_at at h
    split at h
    · obtain ⟨h1, h2⟩ := m_seek_mem x.2 pc q h
      exact ⟨⟨x, List.mem_cons_self, h1⟩, h2⟩
    · obtain ⟨⟨c, h1, h3⟩, h2⟩ := m_at_mem l pc q h
      exact ⟨⟨c, List.mem_cons_of_mem _ h1, h3⟩, h2⟩
def m_c2 : Value → Bool
  | .long _ => true
  | .double _ => true
  | _ => false
theorem m_c2_cat (v : Value) : v.category = if m_c2 v = true then 2 else 1 := by cases v <;> simp [m_c2, Value.category]
def m_cat : List Value → Nat
  | [] => 0
  | v :: r => (match m_c2 v with | true => 2 | false => 1) + m_cat r
def m_sto1 : List (Option Value) → Nat → Value → List (Option Value)
  | [], _, _ => []
  | _ :: r, 0, v => some v :: r
  | x :: r, 1, v => (match x with | some u => (match m_c2 u with | true => none | false => some u) | none => none) :: m_sto1 r 0 v
  | x :: r, i + 2, v => x :: m_sto1 r (i + 1) v
def m_sto2 : List (Option Value) → Nat → Value → List (Option Value)
  | [], _, _ => []
  | [_], 0, _ => []
  | _ :: _ :: r, 0, v => some v :: none :: r
  | x :: r, 1, v => (match x with | some u => (match m_c2 u with | true => none | false => some u) | none => none) :: m_sto2 r 0 v
  | x :: r, i + 2, v => x :: m_sto2 r (i + 1) v
def m_ent : List Value → List (Option Value)
  | [] => []
  | v :: r => match m_c2 v with
    | true => some v :: none :: m_ent r
    | false => some v :: m_ent r
def m_pad : Nat → List (Option Value) → List (Option Value)
  | 0, l => l
  | n + 1, [] => none :: m_pad n []
  | n + 1, x :: l => x :: m_pad n l
def m_pop : Nat → List Value → Option (List Value × List Value)
  | 0, st => some ([], st)
  | _ + 1, [] => none
  | n + 1, v :: st => match m_pop n st with
    | some (as, r) => some (as ++ [v], r)
    | none => none
def m_push : Option Value → List Value → List Value
  | none, r => r
  | some v, r => v :: r
def m_up (I : Nat → Nat → Int32) (k j : Nat) (x : Int32) : Nat → Nat → Int32 := va_up I k (upd (I k) j x)
def m_upL (L : Nat → Nat → Int64) (k j : Nat) (x : Int64) : Nat → Nat → Int64 := va_up L k (vp_updL (L k) j x)
def m_ty (ci : Nat) : Nat → FieldType := match ci with
  | 0 => tyX0 | 1 => tyX1 | 2 => tyX2 | 3 => tyX3 | 4 => tyX4 | 5 => tyX5 | 6 => tyX6 | 7 => tyX7 | 8 => tyX8 | _ => tyX9
def m_TT (ci : Nat) : u_T := match ci with
  | 0 => TX0 | 1 => TX1 | 2 => TX2 | 3 => TX3 | 4 => TX4 | 5 => TX5 | 6 => TX6 | 7 => TX7 | 8 => TX8 | _ => TX9
def m_RR (ci : Nat) : String := match ci with
  | 0 => RX0 | 1 => RX1 | 2 => RX2 | 3 => RX3 | 4 => RX4 | 5 => RX5 | 6 => RX6 | 7 => RX7 | 8 => RX8 | 9 => RX9 | _ => RL
def m_NN (ci : Nat) : Nat := match ci with
  | 0 => 4 | 1 => 11 | 2 => 2 | 3 => 5 | 4 => 3 | 5 => 4 | 6 => 5 | 7 => 14 | 8 => 6 | _ => 56
def m_isL (ci j : Nat) : Bool := match m_ty ci j with
  | .long => true
  | _ => false
def m_fv (I : Nat → Nat → Int32) (L : Nat → Nat → Int64) (ci k j : Nat) : Option (Option Nat) → Value
  | none => match m_isL ci j with
    | true => .long (L k j)
    | false => .int (I k j)
  | some none => .null
  | some (some t) => .ref t
/-- the fields of a new object -/
def m_nf (ci : Nat) : Nat → Nat → List (Option (Option Nat))
  | _, 0 => []
  | j, n + 1 => (match m_ty ci j with | .object _ => some none | .array _ => some none | _ => none) :: m_nf ci (j + 1) n
def m_if : Jvm.ClassFile.Cond → Int32 → Int32 → Prop → Prop → Prop
  | .eq, x, y, A, B => (x = y → A) ∧ (¬ x = y → B)
  | .ne, x, y, A, B => (x = y → B) ∧ (¬ x = y → A)
  | .lt, x, y, A, B => (x < y → A) ∧ (¬ x < y → B)
  | .ge, x, y, A, B => (x < y → B) ∧ (¬ x < y → A)
  | .gt, x, y, A, B => (y < x → A) ∧ (¬ y < x → B)
  | .le, x, y, A, B => (y < x → B) ∧ (¬ y < x → A)
def m_sw : List (Int32 × Nat) → Nat → Int32 → (Nat → Prop) → Prop
  | [], d, _, K => K d
  | q :: r, d, x, K => (x = q.1 → K q.2) ∧ (¬ x = q.1 → m_sw r d x K)
def m_aty : Jvm.ClassFile.ArrayType → FieldType
  | .boolean => .boolean | .char => .char | .float => .float | .double => .double | .byte => .byte | .short => .short | .int => .int | .long => .long
/-- what a method's making costs: cells and slots -/
def m_cost (id : Nat) : Nat × Nat := match m_nth m_costL id with
  | some q => q
  | none => (0, 0)
