/-! ===== the steps that touch the world ===== -/
theorem m_tys_of (aC : FieldType → ClassId) (ty : FieldType) (h : m_t6 ty = true) : ∃ t0 : Nat, (m_tys aC)[t0]? = some (aC ty, ty) := by
  cases ty with
  | byte => exact ⟨0, rfl⟩
  | char => exact ⟨1, rfl⟩
  | int => exact ⟨2, rfl⟩
  | long => exact ⟨3, rfl⟩
  | short => exact ⟨4, rfl⟩
  | boolean => exact ⟨5, rfl⟩
  | _ => cases h
theorem m_lkN_ne : ∀ q ∈ m_lkN, q.1 ≠ q.2.2.1 := by decide +kernel
theorem m_beq {a b : Nat} (h : Nat.beq a b = true) : a = b := Nat.eq_of_beq_eq_true h
theorem m_sh {ad : Nat → Nat} {aC : FieldType → ClassId} {I : Nat → Nat → Int32} {L : Nat → Nat → Int64} {sh : List mS} {k : Nat} {e : mS} (h : m_nth sh k = some e) : (m_wl ad aC I L 0 sh)[k]? = some (ad k, m_ve ad aC I L k e) := by
  rw [m_nth_eq] at h
  rw [m_wl_get, h]
  simp
theorem m_shlt {sh : List mS} {k : Nat} {e : mS} (h : m_nth sh k = some e) : k < sh.length := by
  rw [m_nth_eq] at h
  exact (List.getElem?_eq_some_iff.mp h).1
set_option maxHeartbeats 4000000 in
theorem m_step_mem {p : Program} {l : Launch} {e : Env} {R : Room} {s : State} {m : MethodId} {args : Array Value} {below : List Frame} {meth : Method} {c : Code} {QT : State → Prop} {ad : Nat → Nat} {aC : FieldType → ClassId} {dC : Nat → ClassId} {dI : Nat → Nat → Nat} {base XL nL oi d : Nat} {XS : Nat → Int32} {cc : ByteArray}
    (Cx : m_Cx p R s m args c cc nL oi ad aC dC dI base XL XS d) {C : mC} {rt : Option FieldType} {kd mc ms : Nat} {QM : mK} {pc nx a b : Nat} {i : Instr} {v : Value} {sw : List (Int32 × Nat)} {lo : List (Option Value)} {st : List Value} {sh : List mS} {I : Nat → Nat → Int32} {L : Nat → Nat → Int64} {ce sl : Nat}
    (hin : ∀ x, kd = 100 + x → meth.name = "<init>" ∧ x = oi)
    (hd : decode cc pc = .ok (i, m_len i (nx - pc))) (hnx : nx = pc + m_len i (nx - pc)) (hX : m_okX oi (pc, i, nx, a, b, v, sw) = true)
    (hF : m_G XL XS C rt kd mc ms QM (m_PW p l e R s m args below meth c QT nL ad aC dC dI base) i nx a b v sw lo st sh I L ce sl)
    (hcase : m_grp i = 1) :
    m_PW p l e R s m args below meth c QT nL ad aC dC dI base (pc, lo, st, (sh, I, L), ce, sl) := by
  obtain ⟨hx, hb, hml, hown, hts, hctx, had, hRf, hRl⟩ := Cx
  obtain ⟨hK, hNe, ⟨hXs, hXb⟩, hStr, -, -, -, hbs⟩ := id hctx
  intro H locs ls hP hsz hlen hS hl
  have hD := m_wl_D (ad := ad) (aC := aC) (I := I) (L := L) had hlen
  have hbl : ad 3000000 < s.heap.size := Nat.lt_of_lt_of_le hXb hbs
  have hbA : ¬ base ≤ ad 3000000 := by omega
  cases i with
  | ldc n =>
    have hd : decode cc pc = .ok (.ldc n, 2) := hd
    have hnx : nx = pc + 2 := hnx
    subst hnx
    cases v with
    | ref k =>
      obtain ⟨hX1, hX2⟩ := m_and hX
      obtain ⟨hX2, hX3⟩ := m_and hX2
      obtain ⟨hX3, hX4⟩ := m_and hX3
      obtain ⟨k', rfl⟩ : ∃ k' : Nat, k' = k := ⟨k, rfl⟩
      have h1 : 1000000 ≤ k' := Nat.le_of_ble_eq_true hX1
      have h2 : k' < 1000015 := Nat.le_of_ble_eq_true hX2
      have h3 := of_decide_eq_true hX3
      have h4 : oi = 6 := m_beq hX4
      subst h4
      have hZ := hStr (k' - 1000000) (by omega)
      rw [h3, show 1000000 + (k' - 1000000) = k' by omega] at hZ
      exact va_ldcS hx hb (own := RX6) hown hZ hd (hF H locs ls hP hsz hlen hS hl)
    | _ => cases hX
  | getfield n =>
    have hd : decode cc pc = .ok (.getfield n, 3) := hd
    have hnx : nx = pc + 3 := hnx
    subst hnx
    simp only [m_G] at hF
    split at hF
    · rename_i k r
      split at hF
      · rename_i ci fs hk
        split at hF
        · rename_i hci
          have hci := m_beq hci
          subst hci
          split at hF
          · rename_i f hf
            have he := m_sh (ad := ad) (aC := aC) (I := I) (L := L) hk
            rw [m_nth_eq] at hf
            have hv : (m_fs ad I L ci k 0 fs)[b]? = some (m_tr ad (m_fv I L ci k b f)) := by rw [m_fs_get, hf]; simp
            rcases (Bool.or_eq_true _ _).mp hX with h | h
            · have h := of_decide_eq_true h
              obtain ⟨hc9, hbN⟩ := m_lkF_in _ h
              exact va_get (D := (dC, dI)) (Ts := m_ws) hx hb hts (m_lay ci hc9) hown hK hP k he (m_cl ci hc9) b hbN (hts _ (m_lkF_ok _ h)) (fun _ h9 => h9) hv hd (hF H locs ls hP hsz hlen hS hl)
            · have h := of_decide_eq_true h
              obtain ⟨hc9, hbN⟩ := m_lkN_in _ h
              exact va_getN (D := (dC, dI)) (Ts := m_ws) (host := RX8) hx hb hts (m_lay ci hc9) hown hK hP k he (m_cl ci hc9) b hbN (va_Nw.use rfl (hNe _ (List.mem_filter.mpr ⟨m_lkN_ok _ h, rfl⟩))) (fun _ h9 => h9) hv hd (hF H locs ls hP hsz hlen hS hl)
          · exact hF.elim
        · exact hF.elim
      · exact hF.elim
    · exact hF.elim
  | putfield n =>
    have hd : decode cc pc = .ok (.putfield n, 3) := hd
    have hnx : nx = pc + 3 := hnx
    subst hnx
    simp only [m_G] at hF
    split at hF
    · rename_i u k r
      split at hF
      · rename_i ci fs hk
        split at hF
        · rename_i hci
          have hci := m_beq hci
          subst hci
          have he := m_sh (ad := ad) (aC := aC) (I := I) (L := L) hk
          have hkl := m_shlt hk
          have hk' := hk
          rw [m_nth_eq] at hk'
          -- one row for both sorts of link
          have put : ∀ (u : Value) (w' : mW), ci ≤ 9 → b < m_NN ci → b < fs.length → (m_TT ci b).2.2.2 = false → narrow (m_ty ci b) u = u → fits (m_ty ci b) u = true → (m_wl ad aC w'.2.1 w'.2.2 0 w'.1 = (m_wl ad aC I L 0 sh).set k (ad k, .inr (ci, (m_fs ad I L ci k 0 fs).set b u))) → w'.1.length = sh.length →
              m_PW p l e R s m args below meth c QT nL ad aC dC dI base (pc + 3, lo, r, w', ce, sl) → W p l e R s m args below meth c H locs ce sl QT (F0 m pc ls (u :: .ref (ad k) :: r.map (m_tr ad))) := by
            intro u w' hc9 hbN hbl2 hfin hnar hfit hw hwl hF
            obtain ⟨sh', I', L'⟩ := w'
            have hbl3 : b < (m_fs ad I L ci k 0 fs).length := by rw [m_fs_len]; exact hbl2
            have fin : ∀ (H1 : Heap) (locs1 : List Loc), va_P (dC, dI) vwCl ((m_wl ad aC I L 0 sh).set k (ad k, .inr (ci, (m_fs ad I L ci k 0 fs).set b u))) H1 → va_D (fun q => base ≤ q) ((m_wl ad aC I L 0 sh).set k (ad k, .inr (ci, (m_fs ad I L ci k 0 fs).set b u))) → va_S (fun q => base ≤ q) s.heap H1 locs1 → W p l e R s m args below meth c H1 locs1 ce sl QT (F0 m (pc + 3) ls (r.map (m_tr ad))) := by
              intro H1 locs1 hP1 _ hS1
              rw [← hw] at hP1
              exact hF H1 locs1 ls hP1 (by rw [hwl]; exact hsz) (by rw [hwl]; exact hlen) hS1 hl
            rcases (Bool.or_eq_true _ _).mp hX with h | h
            · have h := of_decide_eq_true h
              exact va_put (D := (dC, dI)) (Ts := m_ws) hx hb hts (m_lay ci hc9) (m_ty ci) (m_tyok ci hc9) (m_nmok ci hc9) hown hK hP hD hS k he (m_cl ci hc9) b hbN (hts _ (m_lkF_ok _ h)) (fun _ h9 => h9) hfin (m_tyok ci hc9 b hbN) hnar hfit hbl3 hd fin
            · have h := of_decide_eq_true h
              exact va_putN (D := (dC, dI)) (Ts := m_ws) (host := RX8) hx hb hts (m_lay ci hc9) (m_ty ci) (m_tyok ci hc9) (m_nmok ci hc9) hown hK hP hD hS k he (m_cl ci hc9) b hbN (va_Nw.use rfl (hNe _ (List.mem_filter.mpr ⟨m_lkN_ok _ h, rfl⟩))) (fun _ h9 => h9) hfin (m_tyok ci hc9 b hbN) hnar hfit hbl3 hd fin
          have hcb : ci ≤ 9 ∧ b < m_NN ci := by
            rcases (Bool.or_eq_true _ _).mp hX with h | h
            · exact m_lkF_in _ (of_decide_eq_true h)
            · exact m_lkN_in _ (of_decide_eq_true h)
          have hfok := m_finok ci (by omega) b hcb.2
          split at hF
          · rename_i x hf
            rw [m_nth_eq] at hf
            have hbl2 : b < fs.length := (List.getElem?_eq_some_iff.mp hf).1
            split at hF
            · rename_i hty
              refine put (.int x) (sh, m_up I k b x, L) hcb.1 hcb.2 hbl2 ?_ (by rw [hty]; rfl) (by rw [hty]; rfl) ?_ rfl hF
              · simp only [m_fin, hty, Bool.not_eq_true'] at hfok; exact hfok
              · rw [m_wl_set hkl (fun q hq => m_up_ne q hq) (fun _ _ => rfl) (m_same hk')]
                simp only [m_ve]
                rw [m_fs_put hf (by simp [m_isL, hty])]
            · rename_i hty
              obtain ⟨hx01, hF⟩ := hF
              refine put (.int x) (sh, m_up I k b x, L) hcb.1 hcb.2 hbl2 ?_ (by rw [hty]; rcases hx01 with rfl | rfl <;> rfl) (by rw [hty]; rcases hx01 with rfl | rfl <;> rfl) ?_ rfl hF
              · simp only [m_fin, hty, Bool.not_eq_true'] at hfok; exact hfok
              · rw [m_wl_set hkl (fun q hq => m_up_ne q hq) (fun _ _ => rfl) (m_same hk')]
                simp only [m_ve]
                rw [m_fs_put hf (by simp [m_isL, hty])]
            · exact hF.elim
          · rename_i x hf
            rw [m_nth_eq] at hf
            have hbl2 : b < fs.length := (List.getElem?_eq_some_iff.mp hf).1
            split at hF
            · rename_i hty
              refine put (.long x) (sh, I, m_upL L k b x) hcb.1 hcb.2 hbl2 ?_ (by rw [hty]; rfl) (by rw [hty]; rfl) ?_ rfl hF
              · simp only [m_fin, hty, Bool.not_eq_true'] at hfok; exact hfok
              · rw [m_wl_set hkl (fun _ _ => rfl) (fun q hq => m_upL_ne q hq) (m_same hk')]
                simp only [m_ve]
                rw [m_fs_putL hf (by simp [m_isL, hty])]
            · exact hF.elim
          · rename_i t f hf
            split at hF
            · rename_i hg
              obtain ⟨hiR, hg⟩ := m_and hg
              obtain ⟨hkd, hlt⟩ := m_and hg
              obtain ⟨hmn, ho⟩ := hin _ (m_beq hkd)
              subst ho
              rw [m_nth_eq] at hf
              have hbl2 : b < fs.length := (List.getElem?_eq_some_iff.mp hf).1
              have hbl3 : b < (m_fs ad I L ci k 0 fs).length := by rw [m_fs_len]; exact hbl2
              have hw : m_wl ad aC I L 0 (sh.set k (.inr (ci, fs.set b (some (some t))))) = (m_wl ad aC I L 0 sh).set k (ad k, .inr (ci, (m_fs ad I L ci k 0 fs).set b (.ref (ad t)))) := by
                rw [m_wl_set hkl (fun _ _ => rfl) (fun _ _ => rfl) (m_setAt hkl)]
                simp only [m_ve]
                rw [m_fs_putR hbl2]
              have hdc := m_decl ci (by omega) b hcb.2
              have hty : (∃ n, m_ty ci b = .object n) ∨ ∃ n, m_ty ci b = .array n := by
                unfold m_isR at hiR
                split at hiR
                · exact Or.inl ⟨_, by assumption⟩
                · exact Or.inr ⟨_, by assumption⟩
                · cases hiR
              have hfin : (m_TT ci b).2.2.2 = true := by
                rcases hty with ⟨n, hn⟩ | ⟨n, hn⟩ <;> (simp only [m_fin, hn] at hfok; exact hfok)
              rcases (Bool.or_eq_true _ _).mp hX with h | h
              · have h := of_decide_eq_true h
                refine va_putF (D := (dC, dI)) (Ts := m_ws) (v := .ref (ad t)) hx hb hts (m_lay ci hcb.1) (m_ty ci) (m_tyok ci hcb.1) (m_nmok ci hcb.1) hown hK hP hD hS k he (m_cl ci hcb.1) b hcb.2 (hts _ (m_lkF_ok _ h)) (fun _ h9 => h9) hfin hmn hdc (m_tyok ci hcb.1 b hcb.2) ?_ ?_ hbl3 hd (fun H1 locs1 hP1 _ hS1 => ?_)
                · rcases hty with ⟨n, hn⟩ | ⟨n, hn⟩ <;> rw [hn] <;> rfl
                · rcases hty with ⟨n, hn⟩ | ⟨n, hn⟩ <;> rw [hn] <;> rfl
                · have hP1 : va_P (dC, dI) vwCl ((m_wl ad aC I L 0 sh).set k (ad k, .inr (ci, (m_fs ad I L ci k 0 fs).set b (.ref (ad t))))) H1 := hP1
                  rw [← hw] at hP1
                  exact hF H1 locs1 ls hP1 (by rw [List.length_set]; exact hsz) (by rw [List.length_set]; exact hlen) hS1 hl
              · exact absurd rfl (m_lkN_ne _ (of_decide_eq_true h))
            · exact hF.elim
          · exact hF.elim
        · exact hF.elim
      · exact hF.elim
    · exact hF.elim
  | arraylength =>
    have hd : decode cc pc = .ok (.arraylength, 1) := hd
    have hnx : nx = pc + 1 := hnx
    subst hnx
    simp only [m_G] at hF
    split at hF
    · rename_i k r
      split at hF
      · rename_i ty n hk
        split at hF
        · rename_i h6
          have he := m_sh (ad := ad) (aC := aC) (I := I) (L := L) hk
          obtain ⟨t0, ht0⟩ := m_tys_of aC ty h6
          exact va_alen (D := (dC, dI)) hx hb hK hP k t0 he ht0 rfl hd (hF H locs ls hP hsz hlen hS hl)
        · exact hF.elim
      · exact hF.elim
      · split at hF
        · rename_i hk3
          have hk3 := m_beq hk3
          subst hk3
          exact va_slen hx hb hXs hbl hbA hS hd (hF H locs ls hP hsz hlen hS hl)
        · exact hF.elim
    · exact hF.elim
  | iaload =>
    have hd : decode cc pc = .ok (.iaload, 1) := hd
    have hnx : nx = pc + 1 := hnx
    subst hnx
    simp only [m_G] at hF
    split at hF
    · rename_i ix k r
      split at hF
      · rename_i n hk
        have he := m_sh (ad := ad) (aC := aC) (I := I) (L := L) hk
        exact va_iald (D := (dC, dI)) hx hb hK hP k 2 he rfl hF.1 hd (hF.2 H locs ls hP hsz hlen hS hl)
      · exact hF.elim
      · split at hF
        · rename_i hk3
          have hk3 := m_beq hk3
          subst hk3
          exact va_sld hx hb hXs hbl hbA hS hF.1 hd (hF.2 H locs ls hP hsz hlen hS hl)
        · exact hF.elim
    · exact hF.elim
  | baload =>
    have hd : decode cc pc = .ok (.baload, 1) := hd
    have hnx : nx = pc + 1 := hnx
    subst hnx
    simp only [m_G] at hF
    split at hF
    · rename_i ix k r
      split at hF
      · rename_i n hk
        have he := m_sh (ad := ad) (aC := aC) (I := I) (L := L) hk
        exact va_bald (D := (dC, dI)) hx hb hK hP k 0 he rfl hF.1 hd (hF.2 H locs ls hP hsz hlen hS hl)
      · rename_i n hk
        have he := m_sh (ad := ad) (aC := aC) (I := I) (L := L) hk
        exact va_zald (D := (dC, dI)) hx hb hK hP k 5 he rfl hF.1 hd (hF.2 H locs ls hP hsz hlen hS hl)
      · exact hF.elim
    · exact hF.elim
  | caload =>
    have hd : decode cc pc = .ok (.caload, 1) := hd
    have hnx : nx = pc + 1 := hnx
    subst hnx
    simp only [m_G] at hF
    split at hF
    · rename_i ix k r
      split at hF
      · rename_i n hk
        have he := m_sh (ad := ad) (aC := aC) (I := I) (L := L) hk
        exact va_cald (D := (dC, dI)) hx hb hK hP k 1 he rfl hF.1 hd (hF.2 H locs ls hP hsz hlen hS hl)
      · exact hF.elim
    · exact hF.elim
  | saload =>
    have hd : decode cc pc = .ok (.saload, 1) := hd
    have hnx : nx = pc + 1 := hnx
    subst hnx
    simp only [m_G] at hF
    split at hF
    · rename_i ix k r
      split at hF
      · rename_i n hk
        have he := m_sh (ad := ad) (aC := aC) (I := I) (L := L) hk
        exact va_sald (D := (dC, dI)) hx hb hK hP k 4 he rfl hF.1 hd (hF.2 H locs ls hP hsz hlen hS hl)
      · exact hF.elim
    · exact hF.elim
  | laload =>
    have hd : decode cc pc = .ok (.laload, 1) := hd
    have hnx : nx = pc + 1 := hnx
    subst hnx
    simp only [m_G] at hF
    split at hF
    · rename_i ix k r
      split at hF
      · rename_i n hk
        have he := m_sh (ad := ad) (aC := aC) (I := I) (L := L) hk
        exact va_lald (D := (dC, dI)) hx hb hK hP k 3 he rfl hF.1 hd (hF.2 H locs ls hP hsz hlen hS hl)
      · exact hF.elim
    · exact hF.elim
  | iastore =>
    have hd : decode cc pc = .ok (.iastore, 1) := hd
    have hnx : nx = pc + 1 := hnx
    subst hnx
    simp only [m_G] at hF
    split at hF
    · rename_i x ix k r
      split at hF
      · rename_i n hk
        have he := m_sh (ad := ad) (aC := aC) (I := I) (L := L) hk
        have hk' := hk
        rw [m_nth_eq] at hk'
        refine va_iast (D := (dC, dI)) hx hb hK hP hD hS k 2 he rfl hF.1 hd (fun H1 locs1 hP1 _ hS1 => hF.2 H1 locs1 ls ?_ hsz hlen hS1 hl)
        rw [m_wl_set (m_shlt hk) (fun q hq => m_up_ne q hq) (fun _ _ => rfl) (m_same hk')]
        simp only [m_ve, m_up_eq]
        exact hP1
      · exact hF.elim
    · exact hF.elim
  | bastore =>
    have hd : decode cc pc = .ok (.bastore, 1) := hd
    have hnx : nx = pc + 1 := hnx
    subst hnx
    simp only [m_G] at hF
    split at hF
    · rename_i x ix k r
      split at hF
      · rename_i n hk
        have he := m_sh (ad := ad) (aC := aC) (I := I) (L := L) hk
        have hk' := hk
        rw [m_nth_eq] at hk'
        refine va_bast (D := (dC, dI)) hx hb hK hP hD hS k 0 he rfl hF.1 hd (fun H1 locs1 hP1 _ hS1 => hF.2 H1 locs1 ls ?_ hsz hlen hS1 hl)
        rw [m_wl_set (m_shlt hk) (fun q hq => m_up_ne q hq) (fun _ _ => rfl) (m_same hk')]
        simp only [m_ve, m_up_eq]
        exact hP1
      · rename_i n hk
        have he := m_sh (ad := ad) (aC := aC) (I := I) (L := L) hk
        have hk' := hk
        rw [m_nth_eq] at hk'
        refine va_zast (D := (dC, dI)) hx hb hK hP hD hS k 5 he rfl hF.1 hd (fun H1 locs1 hP1 _ hS1 => hF.2 H1 locs1 ls ?_ hsz hlen hS1 hl)
        rw [m_wl_set (m_shlt hk) (fun q hq => m_up_ne q hq) (fun _ _ => rfl) (m_same hk')]
        simp only [m_ve, m_up_eq]
        exact hP1
      · exact hF.elim
    · exact hF.elim
  | castore =>
    have hd : decode cc pc = .ok (.castore, 1) := hd
    have hnx : nx = pc + 1 := hnx
    subst hnx
    simp only [m_G] at hF
    split at hF
    · rename_i x ix k r
      split at hF
      · rename_i n hk
        have he := m_sh (ad := ad) (aC := aC) (I := I) (L := L) hk
        have hk' := hk
        rw [m_nth_eq] at hk'
        refine va_cast (D := (dC, dI)) hx hb hK hP hD hS k 1 he rfl hF.1 hd (fun H1 locs1 hP1 _ hS1 => hF.2 H1 locs1 ls ?_ hsz hlen hS1 hl)
        rw [m_wl_set (m_shlt hk) (fun q hq => m_up_ne q hq) (fun _ _ => rfl) (m_same hk')]
        simp only [m_ve, m_up_eq]
        exact hP1
      · exact hF.elim
    · exact hF.elim
  | sastore =>
    have hd : decode cc pc = .ok (.sastore, 1) := hd
    have hnx : nx = pc + 1 := hnx
    subst hnx
    simp only [m_G] at hF
    split at hF
    · rename_i x ix k r
      split at hF
      · rename_i n hk
        have he := m_sh (ad := ad) (aC := aC) (I := I) (L := L) hk
        have hk' := hk
        rw [m_nth_eq] at hk'
        refine va_sast (D := (dC, dI)) hx hb hK hP hD hS k 4 he rfl hF.1 hd (fun H1 locs1 hP1 _ hS1 => hF.2 H1 locs1 ls ?_ hsz hlen hS1 hl)
        rw [m_wl_set (m_shlt hk) (fun q hq => m_up_ne q hq) (fun _ _ => rfl) (m_same hk')]
        simp only [m_ve, m_up_eq]
        exact hP1
      · exact hF.elim
    · exact hF.elim
  | lastore =>
    have hd : decode cc pc = .ok (.lastore, 1) := hd
    have hnx : nx = pc + 1 := hnx
    subst hnx
    simp only [m_G] at hF
    split at hF
    · rename_i x ix k r
      split at hF
      · rename_i n hk
        have he := m_sh (ad := ad) (aC := aC) (I := I) (L := L) hk
        have hk' := hk
        rw [m_nth_eq] at hk'
        refine va_last (D := (dC, dI)) hx hb hK hP hD hS k 3 he rfl hF.1 hd (fun H1 locs1 hP1 _ hS1 => hF.2 H1 locs1 ls ?_ hsz hlen hS1 hl)
        rw [m_wl_set (m_shlt hk) (fun _ _ => rfl) (fun q hq => m_upL_ne q hq) (m_same hk')]
        simp only [m_ve, m_upL_eq]
        exact hP1
      · exact hF.elim
    · exact hF.elim
  | _ => simp [m_grp] at hcase
