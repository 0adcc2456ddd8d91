/-! Stores, arrays, new cells. -/
theorem ok_putI {mt : Nat → pM} {law : Nat} {M : pM} {il : Bool} {sc : List Int32} {pc : Nat} {ci k i : Nat} (hd : decode M.2.1 pc = .ok (.putfield i, 3)) (hf : pFld M ci k i ∨ (pFldF M ci k i ∧ M.1.name = "<init>" ∧ ∀ r, clsP[ci]? = some r → (r.2.1 k).1 = M.1.cls)) (hty : tyP ci k = .int) : pOk mt law M il sc pc (oPutI ci k (pc + 3)) := by
  intro l D cI cO adK adV b B id ls st h Q hM hL hop
  subst hM
  obtain ⟨v, r, rfl, h1⟩ := pPop_inv hop
  obtain ⟨a, r, rfl, h2⟩ := pPop_inv h1
  obtain ⟨x, rfl, h3⟩ := pI_inv h2
  obtain ⟨q, rfl, h4⟩ := pR_inv h3
  obtain ⟨fs, h5, h6⟩ := pOb_inv h4
  cases hb : Nat.ble (k + 1) fs.length with
  | false => rw [hb] at h6; exact h6.elim
  | true =>
    rw [hb, cond_true] at h6
    simp only [pHs_eq] at h6
    refine put_core hd hf (fun w hw => ?_) h5 (Nat.le_of_ble_eq_true hb) h6
    rw [hty]
    rcases hw with hw | ⟨j, hj, -⟩
    · cases hw; exact ⟨rfl, rfl⟩
    · cases hj
theorem ok_putJ {mt : Nat → pM} {law : Nat} {M : pM} {il : Bool} {sc : List Int32} {pc : Nat} {ci k i : Nat} (hd : decode M.2.1 pc = .ok (.putfield i, 3)) (hf : pFld M ci k i ∨ (pFldF M ci k i ∧ M.1.name = "<init>" ∧ ∀ r, clsP[ci]? = some r → (r.2.1 k).1 = M.1.cls)) (hty : tyP ci k = .long) : pOk mt law M il sc pc (oPutJ ci k (pc + 3)) := by
  intro l D cI cO adK adV b B id ls st h Q hM hL hop
  subst hM
  obtain ⟨v, r, rfl, h1⟩ := pPop_inv hop
  obtain ⟨a, r, rfl, h2⟩ := pPop_inv h1
  obtain ⟨x, rfl, h3⟩ := pJ_inv h2
  obtain ⟨q, rfl, h4⟩ := pR_inv h3
  obtain ⟨fs, h5, h6⟩ := pOb_inv h4
  cases hb : Nat.ble (k + 1) fs.length with
  | false => rw [hb] at h6; exact h6.elim
  | true =>
    rw [hb, cond_true] at h6
    simp only [pHs_eq] at h6
    refine put_core hd hf (fun w hw => ?_) h5 (Nat.le_of_ble_eq_true hb) h6
    rw [hty]
    rcases hw with hw | ⟨j, hj, -⟩
    · cases hw; exact ⟨rfl, rfl⟩
    · cases hj
theorem ok_putZ {mt : Nat → pM} {law : Nat} {M : pM} {il : Bool} {sc : List Int32} {pc : Nat} {ci k i : Nat} (hd : decode M.2.1 pc = .ok (.putfield i, 3)) (hf : pFld M ci k i ∨ (pFldF M ci k i ∧ M.1.name = "<init>" ∧ ∀ r, clsP[ci]? = some r → (r.2.1 k).1 = M.1.cls)) (hty : tyP ci k = .boolean) : pOk mt law M il sc pc (oPutZ ci k (pc + 3)) := by
  intro l D cI cO adK adV b B id ls st h Q hM hL hop
  subst hM
  obtain ⟨v, r, rfl, h1⟩ := pPop_inv hop
  obtain ⟨a, r, rfl, h2⟩ := pPop_inv h1
  obtain ⟨x, rfl, h3⟩ := pI_inv h2
  obtain ⟨q, rfl, h4⟩ := pR_inv h3
  obtain ⟨fs, h5, h6⟩ := pOb_inv h4
  cases hb : Nat.ble (k + 1) fs.length with
  | false => rw [hb] at h6; exact h6.elim
  | true =>
    rw [hb, cond_true] at h6
    simp only [pHs_eq] at h6
    refine put_core hd hf (fun w hw => ?_) h5 (Nat.le_of_ble_eq_true hb) h6.2
    rw [hty]
    rcases hw with hw | ⟨j, hj, -⟩
    · cases hw
      rcases h6.1 with rfl | rfl <;> exact ⟨rfl, rfl⟩
    · cases hj
theorem ok_putR {mt : Nat → pM} {law : Nat} {M : pM} {il : Bool} {sc : List Int32} {pc : Nat} {ci k i : Nat} (hd : decode M.2.1 pc = .ok (.putfield i, 3)) (hf : pFld M ci k i ∨ (pFldF M ci k i ∧ M.1.name = "<init>" ∧ ∀ r, clsP[ci]? = some r → (r.2.1 k).1 = M.1.cls)) (hty : (∃ n, tyP ci k = .object n) ∨ ∃ t, tyP ci k = .array t) : pOk mt law M il sc pc (oPutR ci k (pc + 3)) := by
  intro l D cI cO adK adV b B id ls st h Q hM hL hop
  subst hM
  obtain ⟨v, r, rfl, h1⟩ := pPop_inv hop
  obtain ⟨a, r, rfl, h2⟩ := pPop_inv h1
  obtain ⟨x, rfl, h3⟩ := pR_inv h2
  obtain ⟨q, rfl, h4⟩ := pR_inv h3
  obtain ⟨fs, h5, h6⟩ := pOb_inv h4
  cases hb : Nat.ble (k + 1) fs.length with
  | false => rw [hb] at h6; exact h6.elim
  | true =>
    rw [hb, cond_true] at h6
    simp only [pHs_eq] at h6
    refine put_core hd hf (fun w hw => ?_) h5 (Nat.le_of_ble_eq_true hb) h6
    rcases hw with hw | ⟨j, hj, a, ha⟩
    · simp [tv, pg] at hw
    · subst ha
      rcases hty with ⟨n, hn⟩ | ⟨t, hn⟩ <;> rw [hn] <;> exact ⟨rfl, rfl⟩
theorem ok_iaload {mt : Nat → pM} {law : Nat} {M : pM} {il : Bool} {sc : List Int32} {pc : Nat} (hd : decode M.2.1 pc = .ok (.iaload, 1)) : pOk mt law M il sc pc (oLd (pc + 1)) := by
  intro l D cI cO adK adV b B id ls st h Q hM hL hop p e R s m args below meth c H locs cells slots mc ms Z A as0 bs ws cls cst hC hX hw hP hD hS hl hst hB hF
  subst hM
  obtain ⟨v, r, rfl, h1⟩ := pPop_inv hop
  obtain ⟨a, r, rfl, h2⟩ := pPop_inv h1
  obtain ⟨j, rfl, h3⟩ := pI_inv h2
  obtain ⟨q, rfl, h4⟩ := pR_inv h3
  obtain ⟨xs, h5, h6, h7⟩ := pA_inv h4
  obtain ⟨c0, rfl, hst0⟩ := sI hst
  obtain ⟨a, c1, ha, rfl, hst1⟩ := sR hst0
  obtain ⟨a', e', ha', hws, htc⟩ := hw.2.2 q _ h5
  rw [ha] at ha'
  cases ha'
  cases htc
  refine va_iald hC.1 hC.2.1 hC.2.2.2.2.2.1 hP q 0 hws rfl h6 hd ?_
  exact h7 p e R s m args below meth c H locs cells slots mc ms Z A as0 bs ws cls _ hC hX hw hP hD hS hl (sC rfl hst1) hB hF
theorem tc_upd {xs : List Int32} {i : Nat} {x : Int32} (h : i < xs.length) : upd (fun j => xs.getD j 0) i x = fun j => (xs.set i x).getD j 0 := by
  funext j
  by_cases hj : j = i
  · subst hj
    rw [upd, if_pos rfl, List.getD_eq_getElem?_getD, List.getElem?_set_self h]; rfl
  · rw [upd, if_neg hj, List.getD_eq_getElem?_getD, List.getD_eq_getElem?_getD, List.getElem?_set_ne (fun q => hj q.symm)]
theorem ok_iastore {mt : Nat → pM} {law : Nat} {M : pM} {il : Bool} {sc : List Int32} {pc : Nat} (hd : decode M.2.1 pc = .ok (.iastore, 1)) : pOk mt law M il sc pc (oSt (pc + 1)) := by
  intro l D cI cO adK adV b B id ls st h Q hM hL hop p e R s m args below meth c H locs cells slots mc ms Z A as0 bs ws cls cst hC hX hw hP hD hS hl hst hB hF
  subst hM
  obtain ⟨v, r, rfl, h1⟩ := pPop_inv hop
  obtain ⟨a, r, rfl, h2⟩ := pPop_inv h1
  obtain ⟨a, r, rfl, h2a⟩ := pPop_inv h2
  obtain ⟨x, rfl, h3⟩ := pI_inv h2a
  obtain ⟨j, rfl, h3a⟩ := pI_inv h3
  obtain ⟨q, rfl, h4⟩ := pR_inv h3a
  obtain ⟨xs, h5, h6, h7⟩ := pA_inv h4
  obtain ⟨c0, rfl, hst0⟩ := sI hst
  obtain ⟨c0, rfl, hst0a⟩ := sI hst0
  obtain ⟨a, c1, ha, rfl, hst1⟩ := sR hst0a
  obtain ⟨a', e', ha', hws, htc⟩ := hw.2.2 q _ h5
  rw [ha] at ha'
  cases ha'
  cases htc
  have hlt : j.toNatClampNeg < xs.length := Nat.not_le.mp fun q => h6 (Or.inr q)
  rw [pHs_eq] at h7
  refine va_iast hC.1 hC.2.1 hC.2.2.2.2.2.1 hP hD hS q 0 hws rfl h6 hd (fun H1 locs1 hP1 hD1 hS1 => ?_)
  rw [tc_upd hlt] at hP1 hD1
  exact h7 p e R s m args below meth c H1 locs1 cells slots mc ms Z A as0 bs _ cls _ hC hX (hw.set (pg_lt h5) ha (by show _ = _; rw [List.length_set])) hP1 hD1 hS1 hl hst1 hB hF
theorem ok_arraylength {mt : Nat → pM} {law : Nat} {M : pM} {il : Bool} {sc : List Int32} {pc : Nat} (hd : decode M.2.1 pc = .ok (.arraylength, 1)) : pOk mt law M il sc pc (oLen (pc + 1)) := by
  intro l D cI cO adK adV b B id ls st h Q hM hL hop p e R s m args below meth c H locs cells slots mc ms Z A as0 bs ws cls cst hC hX hw hP hD hS hl hst hB hF
  subst hM
  obtain ⟨v, r, rfl, h1⟩ := pPop_inv hop
  obtain ⟨q, rfl, h4⟩ := pR_inv h1
  obtain ⟨xs, h5, h7⟩ := pA_inv h4
  obtain ⟨a, c1, ha, rfl, hst1⟩ := sR hst
  obtain ⟨a', e', ha', hws, htc⟩ := hw.2.2 q _ h5
  rw [ha] at ha'
  cases ha'
  cases htc
  refine va_alen (v := nI xs.length) hC.1 hC.2.1 hC.2.2.2.2.2.1 hP q 0 hws rfl rfl hd ?_
  exact h7 p e R s m args below meth c H locs cells slots mc ms Z A as0 bs ws cls _ hC hX hw hP hD hS hl (sC rfl hst1) hB hF
theorem tc_refs {cI cO : ClassId} {sa : Nat → Option Nat} {as : List Nat} {fs : List Value} {e : va_E} (h : tc cI cO sa as (.inr (50, fs)) e) : ∃ f : Nat → Option Nat, e = .inl (cO, fs.length, .inr (.inr (.inr (.inr f)))) ∧ ∀ j v, pg fs j = some v → tv sa as v = some (va_rf (f j)) := h
theorem ok_aaload {mt : Nat → pM} {law : Nat} {M : pM} {il : Bool} {sc : List Int32} {pc : Nat} (hd : decode M.2.1 pc = .ok (.aaload, 1)) : pOk mt law M il sc pc (oLdA (pc + 1)) := by
  intro l D cI cO adK adV b B id ls st h Q hM hL hop p e R s m args below meth c H locs cells slots mc ms Z A as0 bs ws cls cst hC hX hw hP hD hS hl hst hB hF
  subst hM
  obtain ⟨v, r, rfl, h1⟩ := pPop_inv hop
  obtain ⟨a, r, rfl, h2⟩ := pPop_inv h1
  obtain ⟨j, rfl, h3⟩ := pI_inv h2
  obtain ⟨q, rfl, h4⟩ := pR_inv h3
  obtain ⟨fs, h5, h6, h7⟩ := pOb_inv h4
  obtain ⟨v, h8, h9⟩ := pSome_inv h7
  obtain ⟨i, rfl, h10⟩ := pR_inv h9
  obtain ⟨c0, rfl, hst0⟩ := sI hst
  obtain ⟨a, c1, ha, rfl, hst1⟩ := sR hst0
  obtain ⟨a', e', ha', hws, htc⟩ := hw.2.2 q _ h5
  rw [ha] at ha'
  cases ha'
  obtain ⟨f, rfl, hf⟩ := tc_refs htc
  refine va_aldq hC.1 hC.2.1 hC.2.2.2.2.2.1 hP q 1 hws rfl h6 hd ?_
  exact h10 p e R s m args below meth c H locs cells slots mc ms Z A as0 bs ws cls _ hC hX hw hP hD hS hl (sC (hf _ _ h8) hst1) hB hF
theorem ok_aastore {mt : Nat → pM} {law : Nat} {M : pM} {il : Bool} {sc : List Int32} {pc : Nat} (hd : decode M.2.1 pc = .ok (.aastore, 1)) : pOk mt law M il sc pc (oStA (pc + 1)) := by
  intro l D cI cO adK adV b B id ls st h Q hM hL hop p e R s m args below meth c H locs cells slots mc ms Z A as0 bs ws cls cst hC hX hw hP hD hS hl hst hB hF
  subst hM
  obtain ⟨v, r, rfl, h1⟩ := pPop_inv hop
  obtain ⟨a, r, rfl, h2⟩ := pPop_inv h1
  obtain ⟨a, r, rfl, h2a⟩ := pPop_inv h2
  obtain ⟨x, rfl, h3⟩ := pR_inv h2a
  obtain ⟨j, rfl, h3a⟩ := pI_inv h3
  obtain ⟨q, rfl, h4⟩ := pR_inv h3a
  obtain ⟨fs0, h5, h6⟩ := pOb_inv h4
  obtain ⟨fs, h7, h8, h9⟩ := pOb_inv h6
  obtain ⟨av, c0, hav, rfl, hst0⟩ := sR hst
  obtain ⟨c0, rfl, hst0a⟩ := sI hst0
  obtain ⟨a, c1, ha, rfl, hst1⟩ := sR hst0a
  obtain ⟨a', e', ha', hws, htc⟩ := hw.2.2 q _ h7
  rw [ha] at ha'
  cases ha'
  obtain ⟨a', e2, ha', hws2, htc2⟩ := hw.2.2 x _ h5
  rw [hav] at ha'
  cases ha'
  obtain ⟨f, rfl, hf⟩ := tc_refs htc
  obtain ⟨gs, rfl, hgs⟩ := tc_obj (r := (RX2, TX2, 7)) rfl htc2
  have hlt : j.toNatClampNeg < fs.length := Nat.not_le.mp fun q => h8 (Or.inr q)
  simp only [pHs_eq] at h9
  refine va_astq (r := (RX2, TX2, 7)) hC.1 hC.2.1 hC.2.2.2.2.2.1 hP hD hS q 1 x 2 hws rfl hws2 rfl h8 hd (fun H1 locs1 hP1 hD1 hS1 => ?_)
  exact h9 p e R s m args below meth c H1 locs1 cells slots mc ms Z A as0 bs _ cls _ hC hX (hw.set (pg_lt h7) ha (by
    refine ⟨_, by rw [List.length_set], fun k w hk => ?_⟩
    by_cases hkj : j.toNatClampNeg = k
    · subst hkj
      rw [pg_set _ hlt] at hk
      cases hk
      rw [tv, hav]
      simp [va_up, va_rf]
    · rw [pg_set_ne _ hkj] at hk
      rw [hf k w hk]
      simp [va_up, Ne.symm hkj])) hP1 hD1 hS1 hl hst1 hB hF
