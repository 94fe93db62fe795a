/-! ===== a unit is judged: enumerations, selector, arms, labels ===== -/
def JSt.srt (s : JSt) : Int32 := s.u.1.2.1
def JSt.chs (s : JSt) : Int32 := s.u.1.2.2.1
def JSt.cns (s : JSt) : Int32 := s.u.1.2.2.2.1
def JSt.dfl (s : JSt) : Int32 := s.u.1.2.2.2.2.1
def JSt.old (s : JSt) : Int32 := s.u.1.2.2.2.2.2
def JSt.ars (s : JSt) : List Nat := s.u.2.1
def JSt.lbs (s : JSt) : List (Nat × Int32 × List Nat) := s.u.2.2.1
def JSt.ens (s : JSt) : List (List Nat × List (List Nat)) := s.u.2.2.2
def JSt.wval (s : JSt) (x : Int32) : JSt := s.wu ((x, s.u.1.2), s.u.2)
def JSt.wsel (s : JSt) (x y z : Int32) : JSt := s.wu ((s.u.1.1, x, y, z, s.u.1.2.2.2.2), s.u.2)
def JSt.wdfl (s : JSt) (x : Int32) : JSt := s.wu ((s.u.1.1, s.u.1.2.1, s.u.1.2.2.1, s.u.1.2.2.2.1, x, s.u.1.2.2.2.2.2), s.u.2)
def JSt.wold (s : JSt) (x : Int32) : JSt := s.wu ((s.u.1.1, s.u.1.2.1, s.u.1.2.2.1, s.u.1.2.2.2.1, s.u.1.2.2.2.2.1, x), s.u.2)
def JSt.wars (s : JSt) (x : List Nat) : JSt := s.wu (s.u.1, x, s.u.2.2)
def JSt.wlbs (s : JSt) (x : List (Nat × Int32 × List Nat)) : JSt := s.wu (s.u.1, s.u.2.1, x, s.u.2.2.2)
def JSt.wens (s : JSt) (x : List (List Nat × List (List Nat))) : JSt := s.wu (s.u.1, s.u.2.1, s.u.2.2.1, x)
def jnam (tx : List Nat) (s : JSt) : List Nat := (tk tx s.k).2.2.1
/-- the constants of the latest enumeration -/
def lcs (s : JSt) : List (List Nat) := match s.ens[s.ens.length - 1]? with
  | some x => x.2
  | none => []
def acs (c : List Nat) (s : JSt) : JSt := s.wens (s.ens.modify (s.ens.length - 1) (fun x => (x.1, x.2 ++ [c])))
def jcon (tx : List Nat) (r : JRs) : JRs := jb r fun s =>
  if ¬ (tk tx s.k).1 = 16 then jfal tx 2 (.ok s)
  else if jnam tx s ∈ lcs s then jfal tx 3 (.ok s)
  else if 16 ≤ (lcs s).length then jfal tx 12 (.ok s)
  else jadv (.ok (acs (jnam tx s) s))
def jclp (tx : List Nat) : Nat → JRs → JRs
  | 0, r => r
  | i + 1, r => if jkd tx r = 23 then jclp tx i (jcon tx (jadv r)) else r
def jenm (tx : List Nat) (r : JRs) : JRs := jb r fun s =>
  if ¬ (tk tx s.k).1 = 16 then jfal tx 2 (.ok s)
  else if jnam tx s ∈ s.ens.map (fun x => x.1) then jfal tx 3 (.ok s)
  else if 4 ≤ s.ens.length then jfal tx 12 (.ok s)
  else jxpc tx 20 (jclp tx 16 (jcon tx (jxpc tx 19 (jadv (.ok (s.wens (s.ens ++ [(jnam tx s, [])])))))))
def jens (tx : List Nat) : Nat → JRs → JRs
  | 0, r => r
  | i + 1, r => if jkd tx r = 1 then jens tx i (jenm tx (jadv r)) else r
def enx (s : JSt) (c : List Nat) : Nat := (s.ens.map (fun x => x.1)).idxOf c
def enl (s : JSt) (e : Nat) : Nat := match s.ens[e]? with
  | some x => x.2.length
  | none => 0
def jsl2 (tx : List Nat) (s : JSt) : JRs :=
  if (tk tx s.k).1 = 4 then .ok (s.wsel 0 s.chs s.cns)
  else if (tk tx s.k).1 = 5 then .ok (s.wsel 1 s.chs s.cns)
  else if (tk tx s.k).1 = 16 then (if jnam tx s ∈ s.ens.map (fun x => x.1) then .ok (s.wsel 2 (nI (enx s (jnam tx s))) (nI (enl s (enx s (jnam tx s))))) else jfal tx 5 (.ok s))
  else jfal tx 2 (.ok s)
def jsel (tx : List Nat) (r : JRs) : JRs := jb r fun s =>
  if ¬ ((tk tx s.k).1 = 2 ∨ (tk tx s.k).1 = 3) then jfal tx 2 (.ok s)
  else jxpc tx 19 (jadv (jsl2 tx ((s.wval (if (tk tx s.k).1 = 3 then 1 else 0)).wk (s.k + 1))))
/-- 31 times it, and the sign -/
def jhs (cs : List Nat) : Int32 := cs.foldl (fun a c => 31 * a + nI c) 0
def jdup (s : JSt) (x : Int32) (cs : List Nat) : Bool := if s.srt = 1 then s.lbs.any (fun y => y.2.2 == cs) else s.lbs.any (fun y => y.2.1 == x)
/-- a whole label: `j` its first token, the state at its last -/
def jlb2 (tx : List Nat) (j : Nat) (x : Int32) (cs : List Nat) (s : JSt) : JRs :=
  if jdup s x cs = true then jflt tx 3 j (.ok s)
  else if 32 ≤ s.lbs.length then jflt tx 12 j (.ok s)
  else .ok ((s.wlbs (s.lbs ++ [(s.ars.length - 1, x, cs)])).wk (s.k + 1))
/-- the chosen enumeration's constants -/
def ccs (s : JSt) : List (List Nat) := match s.ens[s.chs.toNatClampNeg]? with
  | some x => x.2
  | none => []
def jlab (tx : List Nat) (w : Bool) (r : JRs) : JRs := jb r fun s =>
  if (tk tx s.k).1 = 25 then
    (if ¬ s.srt = 0 then jfal tx 5 (.ok s)
     else if (tk tx (s.k + 1)).1 = 17 then jlb2 tx s.k (-(nI (tk tx (s.k + 1)).2.2.2.1)) [] (s.wk (s.k + 1))
     else if w = true ∧ 32 ≤ s.lbs.length then jfal tx 12 (.ok s)
     else jfal tx 2 (.ok (s.wk (s.k + 1))))
  else if (tk tx s.k).1 = 17 then (if s.srt = 0 then jlb2 tx s.k (nI (tk tx s.k).2.2.2.1) [] s else jfal tx 5 (.ok s))
  else if (tk tx s.k).1 = 18 then (if s.srt = 1 then jlb2 tx s.k (jhs (jnam tx s)) (jnam tx s) s else jfal tx 5 (.ok s))
  else if (tk tx s.k).1 = 16 then (if s.srt = 2 ∧ jnam tx s ∈ ccs s then jlb2 tx s.k (nI ((ccs s).idxOf (jnam tx s))) [] s else jfal tx 5 (.ok s))
  else jfal tx 2 (.ok s)
def jllp (tx : List Nat) (w : Bool) : Nat → JRs → JRs
  | 0, r => r
  | i + 1, r => if jkd tx r = 23 then jllp tx w i (jlab tx w (jadv r)) else r
def jlbs (tx : List Nat) (w : Bool) (r : JRs) : JRs := jllp tx w 32 (jlab tx w r)
/-- behind the labels -/
def jam2 (tx : List Nat) (s : JSt) : JRs :=
  if (tk tx s.k).1 = 21 then (if 1 < s.ars.length ∧ s.old = 0 then jfal tx 4 (.ok s) else jold tx (((s.wold 1).wk (s.k + 1)).wset 0))
  else if (tk tx s.k).1 = 26 then (if 1 < s.ars.length ∧ ¬ s.old = 0 then jfal tx 4 (.ok s) else jemt 5 1 0 (jbdy tx (((s.wold 0).wk (s.k + 1)).wset 0)))
  else jfal tx 2 (.ok s)
def jarm (tx : List Nat) (w : Bool) (r : JRs) : JRs := jb r fun s =>
  if (tk tx s.k).1 = 7 ∧ ¬ s.dfl < 0 then jfal tx 3 (.ok s)
  else if 20 ≤ s.ars.length then jfal tx 12 (.ok s)
  else if (tk tx s.k).1 = 7 then jam2 tx (((s.wars (s.ars ++ [s.cd.length])).wdfl (nI s.ars.length)).wk (s.k + 1))
  else jb (jlbs tx w (.ok ((s.wars (s.ars ++ [s.cd.length])).wk (s.k + 1)))) (jam2 tx)
def jarms (tx : List Nat) (w : Bool) : Nat → JRs → JRs
  | 0, r => r
  | i + 1, r => if jkd tx r = 6 ∨ jkd tx r = 7 then jarms tx w i (jarm tx w r) else r
/-- the last } and what stands behind it -/
def jlst (tx : List Nat) (r : JRs) : JRs := jb r fun s =>
  if ¬ (tk tx s.k).1 = 20 then jfal tx 2 (.ok s)
  else if ¬ s.val = 0 ∧ ¬ s.old = 0 ∧ ¬ s.set = -1 then jfal tx 10 (.ok s)
  else if ¬ s.val = 0 ∧ s.dfl < 0 ∧ (¬ s.srt = 2 ∨ s.lbs.length < (ccs s).length) then jfal tx 11 (.ok s)
  else if (tk tx (s.k + 1)).1 = 27 then .ok (s.wk (s.k + 1)) else jfal tx 2 (.ok (s.wk (s.k + 1)))
def jall (tx : List Nat) (w : Bool) (s : JSt) : JRs := jlst tx (jarms tx w 21 (jsel tx (jens tx 5 (.ok s))))
/-! the reference's world -/
def S_rd : Nat → Nat → Bool := fun p q => S_st p q || (p == 30 && (q == 12 || q == 16 || q == 17 || q == 18 || q == 19 || q == 21 || q == 27 || q == 28 || q == 29 || q == 46)) || p == 34 || p == 36 || p == 37 || p == 38 || p == 40
def S_rdL : Nat → Nat → Bool := fun p q => S_stL p q || p == 33 || p == 35 || p == 39
def REn (s : JSt) (I : Nat → Nat → Int32) (L : Nat → Nat → Int64) : Prop := I 30 12 = nI s.ens.length ∧ s.ens.length ≤ 4 ∧ ∀ e x, s.ens[e]? = some x → L 33 e = lN (pkB 128 x.1) ∧ NmOk x.1 ∧ I 34 e = nI x.2.length ∧ x.2.length ≤ 16 ∧ (∀ j, j < x.2.length → L 35 (16 * e + j) = lN (pkB 128 (x.2.getD j []))) ∧ ∀ c ∈ x.2, NmOk c
def RSl (hd : Bool) (s : JSt) (I : Nat → Nat → Int32) : Prop := hd = true → I 30 16 = s.val ∧ (s.val = 0 ∨ s.val = 1) ∧ I 30 17 = s.srt ∧ (s.srt = 0 ∨ s.srt = 1 ∨ s.srt = 2) ∧ (s.srt = 2 → ∃ e, e < s.ens.length ∧ s.chs = nI e ∧ I 30 18 = nI e ∧ s.cns = nI (ccs s).length)
def RAr (p : Nat) (s : JSt) (I : Nat → Nat → Int32) : Prop := I 30 19 = nI (s.ars.length - p) ∧ p ≤ s.ars.length ∧ s.ars.length ≤ 20 ∧ ∀ j, j < s.ars.length - p → I 36 j = nI (s.ars.getD j 0)
def RLb (s : JSt) (I : Nat → Nat → Int32) (L : Nat → Nat → Int64) : Prop := I 30 21 = nI s.lbs.length ∧ s.lbs.length ≤ 32 ∧ ∀ j x, s.lbs[j]? = some x → I 37 j = nI x.1 ∧ I 38 j = x.2.1 ∧ (s.srt = 1 → L 39 j = lN (pkB 256 x.2.2) ∧ I 40 j = nI x.2.2.length ∧ NmOk x.2.2)
def ROl (p : Nat) (s : JSt) (I : Nat → Nat → Int32) : Prop := I 30 27 = s.dfl ∧ I 30 28 = s.old ∧ (s.old = 0 ∨ s.old = 1) ∧ I 30 29 = (if s.ars.length - p = 0 then 0 else if s.old = 0 then 1 else 0) ∧ (s.ars.length - p = 0 → s.old = 0) ∧ (p = 0 → ¬ s.old = 0 → I 30 46 = if s.set = -1 then 0 else 1) ∧ (s.old = 0 → s.nm = [])
def RU (hd : Bool) (p : Nat) (s : JSt) (I : Nat → Nat → Int32) (L : Nat → Nat → Int64) : Prop := REn s I L ∧ RSl hd s I ∧ RAr p s I ∧ RLb s I L ∧ ROl p s I
def RH (tx : List Nat) (m : Nat) (I0 : Nat → Nat → Int32) (L0 : Nat → Nat → Int64) (hd : Bool) (p : Nat) (r : JRs) (I : Nat → Nat → Int32) (L : Nat → Nat → Int64) : Prop := (Fr S_rd I0 I ∧ Fr S_rdL L0 L) ∧ (match r with
  | .ok s => (∃ u0 x, RX tx m I L u0 260 [] (.ok ((s.wset x).wu u0)) I L) ∧ RU hd p s I L
  | .error e => ∃ u0, RX tx m I L u0 280 [] (.error e) I L)
theorem S_st_rd {p q : Nat} (h : S_rd p q = false) : S_st p q = false := by
  unfold S_rd at h
  simp at h
  simp [h.1.1.1.1.1.1]
theorem S_stL_rd {p q : Nat} (h : S_rdL p q = false) : S_stL p q = false := by
  unfold S_rdL at h
  simp at h
  simp [h.1.1.1]
theorem RX.reb {tx : List Nat} {m : Nat} {I0 : Nat → Nat → Int32} {L0 : Nat → Nat → Int64} {u0 : JU} {b : Nat} {st : List Fm} {r : JRs} {I : Nat → Nat → Int32} {L : Nat → Nat → Int64} (h : RX tx m I0 L0 u0 b st r I L) : RX tx m I L u0 b st r I L := ⟨⟨h.1.1, h.1.2.1, h.1.2.2.1, h.txm, h.wdm⟩, ⟨Fr.rf, h.2.1.2⟩, Fr.rf, h.2.2.2.1, h.2.2.2.2⟩
