/-! the law from its entry -/
theorem whole_start {p : Program} {e : Env} {s : State} {m : MethodId} {below : List Frame} {meth : Method} {c : Code} (l : Launch) (hflags : l.flags = flags0) {b L : Nat} {xs : Nat → Int32} (hL : L ≤ 260) (htab : c.exceptionTable.toList = []) (C0 : lw_At p s m meth c b L xs) : W p l e room_1 s m #[Value.ref b] below meth c s.heap [] 0 0 (lw_Z below #[Value.ref b] s) (entryFrame m ([Value.ref b] : List Value).toArray 11) := by
  obtain ⟨hx, hb, hr, hml, hown, hts, hX, hbl, hlocks, hgv⟩ := C0
  have hst : l.stackTraces = false := by
    unfold Launch.stackTraces
    rw [hflags]
    decide
  obtain ⟨D, hD⟩ := st_Kn hts
  obtain ⟨aC, hA⟩ := st_arr hts
  obtain ⟨lA, lV, hLit⟩ := st_lits hgv
  obtain ⟨dT, hT1, hT2⟩ := st_dT hts hgv
  obtain ⟨dO, hO1, hO2⟩ := st_dO hts hgv
  obtain ⟨w, w1, w2, w3, w4, w5, w6⟩ := st_w (g := (D, aC, s.heap.size, lA, dT, dO)) rfl hD hX hL
  have hmem : ∀ {i : Nat} {t : List Int32}, lits[i]? = some t → isLit w (lA i) t := fun {i t} hi => by
    have hi18 : i < 18 := (List.getElem?_eq_some_iff.mp hi).1
    obtain ⟨t', q, h1, h2⟩ := lits_some hi18
    cases hi.symm.trans h1
    obtain ⟨⟨h3, h4, h5, h6⟩, -⟩ := hLit i t q hi h2
    obtain ⟨f, h7, h8⟩ := w5 (lV i) t.length (fun j => t.getD j 0) ⟨h6, by have := lits_len hi; omega, fit_getD (fit_lits t (List.mem_of_getElem? hi))⟩
    exact ⟨lV i, f, w6 _ _ ⟨h3, h4, h5⟩, h7, h8⟩
  have hM0 : hM (D, aC, s.heap.size, lA, dT, dO) w s s.heap := by
    refine ⟨w1, fun i t hi => hmem hi, ?_, ?_⟩
    · obtain ⟨f, h1, h2⟩ := w5 dT 100 (fun j => digT.getD j 0) ⟨hT1, by decide, fit_getD fit_digT⟩
      exact ⟨f, h1, fun j hj => h2 j (by simpa [digT] using hj)⟩
    · obtain ⟨f, h1, h2⟩ := w5 dO 100 (fun j => digO.getD j 0) ⟨hO1, by decide, fit_getD fit_digO⟩
      exact ⟨f, h1, fun j hj => h2 j (by simpa [digO] using hj)⟩
  have hAm : Amb (D, aC, s.heap.size, lA, dT, dO) s s.heap := by
    refine ⟨⟨hD, fun k q hk => ?_⟩, fun x hx => ?_, vx_Zqof (hts _ (by decide +kernel)) (hts _ (by decide +kernel)) (FW_ok hgv _ (by decide +kernel)) sH_n, vx_Zqof (hts _ (by decide +kernel)) (hts _ (by decide +kernel)) (FW_ok hgv _ (by decide +kernel)) sH_n, va_Zqof (hts _ (by decide +kernel)) (hts _ (by decide +kernel)) (FW_ok hgv _ (by decide +kernel)) sH_n, hT2, hO2, st_ambR hts hgv hLit, st_ambX hts hgv, fun x hx => va_Nc.of (FW_ok hgv _ (ambN_w x hx)), fun x hx => va_AO.of (hts _ (ambO_w x hx)), fun x hx => va_Nw.of rfl (hts _ (ambW_w x hx)), fun x hx => ?_, fun x hx => mDc.of (hts _ (exD_w x hx)), Nat.le_refl _⟩
    · have hk8 : k < 8 := by
        have := (List.getElem?_eq_some_iff.mp hk).1
        simpa [gTy] using this
      rw [gTy_at _ hk8] at hk
      cases hk
      exact hA k hk8
    · simp only [ambS, List.mem_singleton] at hx
      subst hx
      exact va_Zof (hts _ (by decide +kernel)) (hts _ (by decide +kernel)) (va_eqt (FW_ok hgv _ (by decide +kernel))) sH_n
    · rcases ambK_w x hx with ⟨e, h⟩ | h
      · have h2 := castable_self (hts _ h)
        rw [← e]
        exact h2
      · exact va_Nw.of rfl (hts _ h)
  have hCX : CX ((D, aC, s.heap.size, lA, dT, dO), (11, 600086, 7301442), p, l, e, room_1, s, m, #[Value.ref b], below, meth, c, lw_Z below #[Value.ref b] s) cL_law RL 11 (some .boolean) [] (0 + 11) := ⟨hx, hb, hml, rfl, hown, GW_ok hts, hAm, hst, hlocks, hr, htab, by decide, by decide, by decide, by decide⟩
  have hV := ct_L_law (z := s.heap.size) hCX ⟨b, rfl, rfl, rfl, rfl, rfl, rfl⟩ (law_F w3 hL w2 w4 (Q := lawQ) (fun _ _ => rfl) (Nat.le_refl 600086) (Nat.le_refl 7301442))
  have hl := lv_entry ([.ref b]) (n := 11) (Nat.le_of_ble_eq_true rfl)
  rw [lg_entry_eq]
  exact hV s.heap [] _ 0 0 rfl hM0 va_S.rf hl (by omega) (by omega)
