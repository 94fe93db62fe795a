/-! ===== the law's walk: over one call; over all, where the readings agree ===== -/
theorem m_open1 {p : Program} {e : Env} {s : State} {m : MethodId} {below : List Frame} {meth : Method} {c : Code} (l : Launch) {b L : Nat} {xs : Nat → Int32} (hL : L ≤ 4) (C0 : lw_At p s m meth c b L xs) :
    W p l e room_1 s m #[Value.ref b] below meth c s.heap [] 0 0 (lw_Z below #[Value.ref b] s) (entryFrame m ([Value.ref b] : List Value).toArray 4) :=
  m_whole_open l C0 (fun _ _ _ _ _ d as w K h8 h => m_hPW d as w K h8 h) (w_law1 hL)
theorem m_openA {p : Program} {e : Env} {s : State} {m : MethodId} {below : List Frame} {meth : Method} {c : Code} (l : Launch) {b L : Nat} {xs : Nat → Int32} (hL : L ≤ 256) (hrd : ∀ tx v t, jall tx true (js0 v t) = jall tx false (js0 v t)) (C0 : lw_At p s m meth c b L xs) :
    W p l e room_1 s m #[Value.ref b] below meth c s.heap [] 0 0 (lw_Z below #[Value.ref b] s) (entryFrame m ([Value.ref b] : List Value).toArray 4) :=
  m_whole_open l C0 (fun _ _ _ _ _ d as w K h8 h => m_hPW d as w K h8 h) (w_law hL hrd)
