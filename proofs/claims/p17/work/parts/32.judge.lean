/-! ===== what the tokens are judged to be: the state, and what each step makes of it ===== -/
/-- value, sort, chosen, constants, default, old; arms' starts; labels; enumerations -/
abbrev JU : Type := (Int32 × Int32 × Int32 × Int32 × Int32 × Int32) × List Nat × List (Nat × Int32 × List Nat) × List (List Nat × List (List Nat))
/-- token, stmts, set, names, code, the rest -/
def JSt : Type := Nat × Nat × Int32 × List (List Nat) × List (Int32 × Int32 × Int32) × JU
def JSt.k (s : JSt) : Nat := s.1
def JSt.sm (s : JSt) : Nat := s.2.1
def JSt.set (s : JSt) : Int32 := s.2.2.1
def JSt.nm (s : JSt) : List (List Nat) := s.2.2.2.1
def JSt.cd (s : JSt) : List (Int32 × Int32 × Int32) := s.2.2.2.2.1
def JSt.u (s : JSt) : JU := s.2.2.2.2.2
def JSt.val (s : JSt) : Int32 := s.u.1.1
def JSt.wk (s : JSt) (x : Nat) : JSt := (x, s.2)
def JSt.wsm (s : JSt) (x : Nat) : JSt := (s.1, x, s.2.2)
def JSt.wset (s : JSt) (x : Int32) : JSt := (s.1, s.2.1, x, s.2.2.2)
def JSt.wnm (s : JSt) (x : List (List Nat)) : JSt := (s.1, s.2.1, s.2.2.1, x, s.2.2.2.2)
def JSt.wcd (s : JSt) (x : List (Int32 × Int32 × Int32)) : JSt := (s.1, s.2.1, s.2.2.1, s.2.2.2.1, x, s.2.2.2.2.2)
def JSt.wu (s : JSt) (x : JU) : JSt := (s.1, s.2.1, s.2.2.1, s.2.2.2.1, s.2.2.2.2.1, x)
abbrev JRs : Type := Except (Nat × Nat) JSt
def jb (r : JRs) (g : JSt → JRs) : JRs := match r with
  | .ok s => g s
  | .error e => .error e
def jkd (tx : List Nat) : JRs → Nat
  | .ok s => (tk tx s.k).1
  | .error _ => 0
def jcs (tx : List Nat) : JRs → List Nat
  | .ok s => (tk tx s.k).2.2.1
  | .error _ => []
def jnum (tx : List Nat) : JRs → Nat
  | .ok s => (tk tx s.k).2.2.2.1
  | .error _ => 0
def jadv (r : JRs) : JRs := jb r fun s => .ok (s.wk (s.k + 1))
def jflt (tx : List Nat) (n j : Nat) (r : JRs) : JRs := jb r fun _ => .error (if n = 2 ∧ (tk tx j).1 = 28 then 1 else n, (tk tx j).2.1)
def jfal (tx : List Nat) (n : Nat) (r : JRs) : JRs := jb r fun s => .error (if n = 2 ∧ (tk tx s.k).1 = 28 then 1 else n, (tk tx s.k).2.1)
def jxpc (tx : List Nat) (k : Nat) (r : JRs) : JRs := if jkd tx r = k then jadv r else jfal tx 2 r
def jnmv (tx : List Nat) (r : JRs) : Int32 := if jkd tx r = 17 then nI (jnum tx r) else 0
def jnmb (tx : List Nat) (r : JRs) : JRs := if jkd tx r = 17 then jadv r else jfal tx 2 r
def jemt (k a b : Int32) (r : JRs) : JRs := jb r fun s => .ok (if s.cd.length < 260 then (s.wcd (s.cd ++ [(k, a, b)])) else s)
def jled (i : Nat) (r : JRs) : JRs := jb r fun s => .ok (s.wcd (s.cd.modify i (fun x => (x.1, nI s.cd.length, x.2.2))))
def jsst (x : Int32) (r : JRs) : JRs := jb r fun s => .ok (s.wset (x))
def jshr (c : Nat) (r : JRs) : JRs := jb r fun s => .ok ((s.wnm (s.nm.take c)).wset (if s.set = -1 then -1 else s.set &&& ((1 <<< (nI c &&& 31)) - 1)))
def jfnd (tx : List Nat) (r : JRs) : Int32 := match r with
  | .ok s => if jcs tx r ∈ s.nm then nI (s.nm.idxOf (jcs tx r)) else -1
  | .error _ => -1
def jgs : JRs → Int32
  | .ok s => s.set
  | .error _ => 0
def jstn (name v : Int32) (r : JRs) : JRs := jb (jemt 2 name v r) fun s => .ok (s.wset (if name < 0 then s.set else s.set ||| (1 <<< (name &&& 31))))
def jlve (h v : Int32) (r : JRs) : JRs := jsst (-1) (jemt 5 h v r)
def jbgn (k : Nat) : Bool := k == 19 || k == 16 || (8 ≤ k && k ≤ 14)
abbrev jbit (name : Int32) (s : Int32) : Prop := ¬ name < 0 ∧ (s.toUInt32 >>> (name.toUInt32 &&& Int32.toUInt32 31)).toInt32 &&& 1 = 1
def jopn (tx : List Nat) (d : Nat) (r : JRs) : JRs := jb r fun s =>
  if (tk tx s.k).1 = 16 ∧ jfnd tx r < 0 then jfal tx 7 r
  else if (if s.val = 0 then (tk tx s.k).1 = 12 else (tk tx s.k).1 = 11) then jfal tx 8 r
  else if s.set = -1 then jfal tx 9 r
  else if 120 ≤ s.sm ∨ 10 < d then jfal tx 12 r
  else .ok (s.wsm (s.sm + 1))
def jlet (tx : List Nat) (r : JRs) : JRs := jb r fun s =>
  if ¬ (tk tx s.k).1 = 16 then jfal tx 2 r
  else if ¬ jfnd tx r < 0 then jfal tx 6 r
  else if 20 ≤ s.nm.length then jfal tx 12 r
  else
    let r1 := jadv (.ok (s.wnm (s.nm ++ [(tk tx s.k).2.2.1])))
    if jkd tx r1 = 24 then jstn (nI s.nm.length) (jnmv tx (jadv r1)) (jnmb tx (jadv r1)) else r1
def juse (tx : List Nat) (r : JRs) : JRs := jb r fun s =>
  if ¬ (tk tx s.k).1 = 16 then jfal tx 2 r
  else if ¬ jbit (jfnd tx r) s.set then jfal tx 7 r
  else jadv (jemt 1 (jfnd tx r) 0 r)
def jyld (tx : List Nat) (r : JRs) : JRs :=
  if jkd tx r = 25 then jlve 2 (-(jnmv tx (jadv r))) (jnmb tx (jadv r)) else jlve 2 (jnmv tx r) (jnmb tx r)
def jsmp (tx : List Nat) (r : JRs) : JRs :=
  if jkd tx r = 8 then jemt 0 (jnmv tx (jadv r)) 0 (jnmb tx (jadv r))
  else if jkd tx r = 10 then juse tx (jadv r)
  else if jkd tx r = 16 then jstn (jfnd tx r) (jnmv tx (jxpc tx 24 (jadv r))) (jnmb tx (jxpc tx 24 (jadv r)))
  else if jkd tx r = 11 then jlve 1 0 (jadv r)
  else jlve 3 (jnmv tx (jadv r)) (jnmb tx (jadv r))
def jloop (tx : List Nat) (g : JRs → JRs) : Nat → JRs → JRs
  | 0, r => r
  | i + 1, r => if jbgn (jkd tx r) = true then jloop tx g i (g r) else r
def jcl : JRs → Nat
  | .ok s => s.cd.length
  | .error _ => 0
def jnl : JRs → Nat
  | .ok s => s.nm.length
  | .error _ => 0
def jblk (tx : List Nat) (g : JRs → JRs) (r : JRs) : JRs := jshr (jnl r) (jxpc tx 20 (jloop tx g 121 (jadv r)))
def jbr1 (g : JRs → JRs) (r : JRs) : JRs := g (jadv (jemt 3 0 0 r))
def jbr2 (g : JRs → JRs) (r : JRs) : JRs := g (jadv (jled (jcl r) (jemt 4 0 0 (jsst (jgs r) (jbr1 g r)))))
def jbrn (tx : List Nat) (g : JRs → JRs) (r : JRs) : JRs :=
  if jkd tx (jsst (jgs r) (jbr1 g r)) = 15
  then (let q := jled (jcl (jbr1 g r)) (jbr2 g r); jsst (jgs q &&& jgs (jbr1 g r)) q)
  else (let q := jled (jcl r) (jsst (jgs r) (jbr1 g r)); jsst (jgs q &&& jgs (jbr1 g r)) q)
def jst1 (tx : List Nat) (r : JRs) : JRs := if jbgn (jkd tx r) = true then r else jfal tx 2 r
def jstmt (tx : List Nat) : Nat → JRs → JRs
  | 0, r => jopn tx 11 (jst1 tx r)
  | f + 1, r => jb (jopn tx (11 - (f + 1)) (jst1 tx r)) fun s =>
    if (tk tx s.k).1 = 19 then jblk tx (jstmt tx f) (.ok s)
    else if (tk tx s.k).1 = 14 then jbrn tx (jstmt tx f) (.ok s)
    else if (tk tx s.k).1 = 9 then jxpc tx 22 (jlet tx (jadv (.ok s)))
    else if (tk tx s.k).1 = 12 then jxpc tx 22 (jyld tx (jadv (.ok s)))
    else jxpc tx 22 (jsmp tx (.ok s))
/-! errors stay -/
theorem jadv_er {e : Nat × Nat} : jadv (.error e) = .error e := rfl
theorem jfal_er {tx : List Nat} {n : Nat} {e : Nat × Nat} : jfal tx n (.error e) = .error e := rfl
theorem jxpc_er {tx : List Nat} {n : Nat} {e : Nat × Nat} : jxpc tx n (.error e) = .error e := by
  unfold jxpc
  split <;> rfl
theorem jnmb_er {tx : List Nat} {e : Nat × Nat} : jnmb tx (.error e) = .error e := by
  unfold jnmb
  split <;> rfl
theorem jemt_er {k a b : Int32} {e : Nat × Nat} : jemt k a b (.error e) = .error e := rfl
theorem jled_er {i : Nat} {e : Nat × Nat} : jled i (.error e) = .error e := rfl
theorem jsst_er {x : Int32} {e : Nat × Nat} : jsst x (.error e) = .error e := rfl
theorem jst1_er {tx : List Nat} {e : Nat × Nat} : jst1 tx (.error e) = .error e := by
  unfold jst1
  split <;> rfl
theorem jstmt_er {tx : List Nat} {d : Nat} {e : Nat × Nat} : jstmt tx d (.error e) = .error e := by
  cases d <;> simp only [jstmt, jst1_er] <;> rfl
/-! names only come to those that are there -/
def jge (c : Nat) (r : JRs) : Prop := ∀ s, r = .ok s → c ≤ s.nm.length
theorem jge_er {c : Nat} {e : Nat × Nat} : jge c (.error e) := fun s h => by cases h
theorem jge_b {c : Nat} {r : JRs} {g : JSt → JRs} (h : jge c r) (hg : ∀ s, r = .ok s → c ≤ s.nm.length → jge c (g s)) : jge c (jb r g) := by
  cases r with
  | ok s => exact hg s rfl (h s rfl)
  | error e => exact jge_er
theorem jge_ok {c : Nat} {s : JSt} (h : c ≤ s.nm.length) : jge c (.ok s) := fun s' e => by cases e; exact h
theorem jge_adv {c : Nat} {r : JRs} (h : jge c r) : jge c (jadv r) := jge_b h fun s _ hs => jge_ok hs
theorem jge_fal {tx : List Nat} {n c : Nat} {r : JRs} : jge c (jfal tx n r) := by cases r <;> exact jge_er
theorem jge_xpc {tx : List Nat} {k c : Nat} {r : JRs} (h : jge c r) : jge c (jxpc tx k r) := by
  unfold jxpc
  split
  · exact jge_adv h
  · exact jge_fal
theorem jge_nmb {tx : List Nat} {c : Nat} {r : JRs} (h : jge c r) : jge c (jnmb tx r) := by
  unfold jnmb
  split
  · exact jge_adv h
  · exact jge_fal
theorem jge_emt {k a b : Int32} {c : Nat} {r : JRs} (h : jge c r) : jge c (jemt k a b r) := jge_b h fun s _ hs => by
  split
  · exact jge_ok hs
  · exact jge_ok hs
theorem jge_led {i c : Nat} {r : JRs} (h : jge c r) : jge c (jled i r) := jge_b h fun s _ hs => jge_ok hs
theorem jge_sst {x : Int32} {c : Nat} {r : JRs} (h : jge c r) : jge c (jsst x r) := jge_b h fun s _ hs => jge_ok hs
theorem jge_stn {x y : Int32} {c : Nat} {r : JRs} (h : jge c r) : jge c (jstn x y r) := jge_b (jge_emt h) fun s _ hs => jge_ok hs
theorem jge_lve {x y : Int32} {c : Nat} {r : JRs} (h : jge c r) : jge c (jlve x y r) := jge_sst (jge_emt h)
theorem jge_st1 {tx : List Nat} {c : Nat} {r : JRs} (h : jge c r) : jge c (jst1 tx r) := by
  unfold jst1
  split
  · exact h
  · exact jge_fal
theorem jge_opn {tx : List Nat} {d c : Nat} {r : JRs} (h : jge c r) : jge c (jopn tx d r) := jge_b h fun s _ hs => by
  repeat' split
  all_goals first | exact jge_fal | exact jge_ok hs
theorem jge_let {tx : List Nat} {c : Nat} {r : JRs} (h : jge c r) : jge c (jlet tx r) := jge_b h fun s _ hs => by
  have hl : c ≤ (s.nm ++ [(tk tx s.k).2.2.1]).length := by rw [List.length_append]; omega
  split
  · exact jge_fal
  split
  · exact jge_fal
  split
  · exact jge_fal
  simp only
  split
  · exact jge_stn (jge_nmb (jge_adv (jge_adv (jge_ok hl))))
  · exact jge_adv (jge_ok hl)
theorem jge_use {tx : List Nat} {c : Nat} {r : JRs} (h : jge c r) : jge c (juse tx r) := jge_b h fun s _ hs => by
  split
  · exact jge_fal
  split
  · exact jge_fal
  · exact jge_adv (jge_emt h)
theorem jge_yld {tx : List Nat} {c : Nat} {r : JRs} (h : jge c r) : jge c (jyld tx r) := by
  unfold jyld
  split
  · exact jge_lve (jge_nmb (jge_adv h))
  · exact jge_lve (jge_nmb h)
theorem jge_smp {tx : List Nat} {c : Nat} {r : JRs} (h : jge c r) : jge c (jsmp tx r) := by
  unfold jsmp
  repeat' split
  · exact jge_emt (jge_nmb (jge_adv h))
  · exact jge_use (jge_adv h)
  · exact jge_stn (jge_nmb (jge_xpc (jge_adv h)))
  · exact jge_lve (jge_adv h)
  · exact jge_lve (jge_nmb (jge_adv h))
theorem jge_loop {tx : List Nat} {g : JRs → JRs} {c : Nat} (hg : ∀ r, jge c r → jge c (g r)) : ∀ (i : Nat) (r : JRs), jge c r → jge c (jloop tx g i r)
  | 0, _, h => h
  | i + 1, r, h => by
    unfold jloop
    split
    · exact jge_loop hg i _ (hg r h)
    · exact h
theorem jge_shr {c d : Nat} {r : JRs} (h : jge d r) (hcd : c ≤ d) : jge c (jshr d r) := fun s e => by
  cases r with
  | ok s' =>
    have := h s' rfl
    cases e
    show c ≤ (s'.nm.take d).length
    rw [List.length_take]
    omega
  | error e => cases e
theorem jge_blk {tx : List Nat} {g : JRs → JRs} {c : Nat} {s : JSt} (hg : ∀ c r, jge c r → jge c (g r)) (h : c ≤ s.nm.length) : jge c (jblk tx g (.ok s)) :=
  jge_shr (d := s.nm.length) (jge_xpc (jge_loop (hg _) 121 _ (jge_adv (jge_ok (Nat.le_refl _))))) h
theorem jge_brn {tx : List Nat} {g : JRs → JRs} {c : Nat} {s : JSt} (hg : ∀ c r, jge c r → jge c (g r)) (h : c ≤ s.nm.length) : jge c (jbrn tx g (.ok s)) := by
  have h1 : jge c (jbr1 g (.ok s)) := hg c _ (jge_adv (jge_emt (jge_ok h)))
  unfold jbrn
  split
  · exact jge_sst (jge_led (hg c _ (jge_adv (jge_led (jge_emt (jge_sst h1))))))
  · exact jge_sst (jge_led (jge_sst h1))
theorem jge_stmt {tx : List Nat} : ∀ (f c : Nat) (r : JRs), jge c r → jge c (jstmt tx f r)
  | 0, c, r, h => jge_opn (jge_st1 h)
  | f + 1, c, r, h => jge_b (jge_opn (jge_st1 h)) fun s _ hs => by
    split
    · exact jge_blk (jge_stmt f) hs
    split
    · exact jge_brn (jge_stmt f) hs
    split
    · exact jge_xpc (jge_let (jge_adv (jge_ok hs)))
    split
    · exact jge_xpc (jge_yld (jge_adv (jge_ok hs)))
    · exact jge_xpc (jge_smp (jge_ok hs))
