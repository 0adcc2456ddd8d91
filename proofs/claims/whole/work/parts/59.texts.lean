/-! Texts. -/
theorem ok_str0 {mt : Nat → pM} {law : Nat} {M : pM} {il : Bool} {sc : List Int32} {pc : Nat} (hd : decode M.2.1 pc = .ok (.ldc 28, 2)) (hc : M.1.cls = RX0) : pOk mt law M il sc pc (oStr 0 (pc + 2)) := by
  intro l D cI cO adK adV b B id ls st h Q hM hL hop p e R s m args below meth c H locs cells slots mc ms Z A as0 bs ws cls cst hC hX hw hP hD hS hl hst hB hF
  subst hM
  refine va_ldcS (q := adK 0) hC.1 hC.2.1 (hc ▸ hC.2.2.2.1) hC.2.2.2.2.2.2.2.2.2.1.2.1.1 hd ?_
  exact hop p e R s m args below meth c H locs cells slots mc ms Z A as0 bs ws cls _ hC hX hw hP hD hS hl (sC rfl hst) hB hF
theorem ok_str1 {mt : Nat → pM} {law : Nat} {M : pM} {il : Bool} {sc : List Int32} {pc : Nat} (hd : decode M.2.1 pc = .ok (.ldc 28, 2)) (hc : M.1.cls = RX1) : pOk mt law M il sc pc (oStr 1 (pc + 2)) := by
  intro l D cI cO adK adV b B id ls st h Q hM hL hop p e R s m args below meth c H locs cells slots mc ms Z A as0 bs ws cls cst hC hX hw hP hD hS hl hst hB hF
  subst hM
  refine va_ldcS (q := adK 1) hC.1 hC.2.1 (hc ▸ hC.2.2.2.1) hC.2.2.2.2.2.2.2.2.2.1.2.1.2.1 hd ?_
  exact hop p e R s m args below meth c H locs cells slots mc ms Z A as0 bs ws cls _ hC hX hw hP hD hS hl (sC rfl hst) hB hF
theorem ok_str2 {mt : Nat → pM} {law : Nat} {M : pM} {il : Bool} {sc : List Int32} {pc : Nat} (hd : decode M.2.1 pc = .ok (.ldc 40, 2)) (hc : M.1.cls = RX1) : pOk mt law M il sc pc (oStr 2 (pc + 2)) := by
  intro l D cI cO adK adV b B id ls st h Q hM hL hop p e R s m args below meth c H locs cells slots mc ms Z A as0 bs ws cls cst hC hX hw hP hD hS hl hst hB hF
  subst hM
  refine va_ldcS (q := adK 2) hC.1 hC.2.1 (hc ▸ hC.2.2.2.1) hC.2.2.2.2.2.2.2.2.2.1.2.1.2.2.1 hd ?_
  exact hop p e R s m args below meth c H locs cells slots mc ms Z A as0 bs ws cls _ hC hX hw hP hD hS hl (sC rfl hst) hB hF
theorem ok_str3 {mt : Nat → pM} {law : Nat} {M : pM} {il : Bool} {sc : List Int32} {pc : Nat} (hd : decode M.2.1 pc = .ok (.ldc 42, 2)) (hc : M.1.cls = RX1) : pOk mt law M il sc pc (oStr 3 (pc + 2)) := by
  intro l D cI cO adK adV b B id ls st h Q hM hL hop p e R s m args below meth c H locs cells slots mc ms Z A as0 bs ws cls cst hC hX hw hP hD hS hl hst hB hF
  subst hM
  refine va_ldcS (q := adK 3) hC.1 hC.2.1 (hc ▸ hC.2.2.2.1) hC.2.2.2.2.2.2.2.2.2.1.2.1.2.2.2.1 hd ?_
  exact hop p e R s m args below meth c H locs cells slots mc ms Z A as0 bs ws cls _ hC hX hw hP hD hS hl (sC rfl hst) hB hF
theorem ok_str4 {mt : Nat → pM} {law : Nat} {M : pM} {il : Bool} {sc : List Int32} {pc : Nat} (hd : decode M.2.1 pc = .ok (.ldc 44, 2)) (hc : M.1.cls = RX1) : pOk mt law M il sc pc (oStr 4 (pc + 2)) := by
  intro l D cI cO adK adV b B id ls st h Q hM hL hop p e R s m args below meth c H locs cells slots mc ms Z A as0 bs ws cls cst hC hX hw hP hD hS hl hst hB hF
  subst hM
  refine va_ldcS (q := adK 4) hC.1 hC.2.1 (hc ▸ hC.2.2.2.1) hC.2.2.2.2.2.2.2.2.2.1.2.1.2.2.2.2 hd ?_
  exact hop p e R s m args below meth c H locs cells slots mc ms Z A as0 bs ws cls _ hC hX hw hP hD hS hl (sC rfl hst) hB hF
theorem pShort_sum : ∀ (k : Nat) (st : List Value), pShort k st = true → (st.map fun v => v.category).sum ≤ k
  | _, [], _ => Nat.zero_le _
  | 0, _ :: _, h => by simp [pShort] at h
  | k + 1, v :: r, h => by
    have hv : v.category = 1 ∧ pShort k r = true := by
      cases v with
      | long x => simp [pShort] at h
      | double x => simp [pShort] at h
      | _ => exact ⟨rfl, h⟩
    have := pShort_sum k r hv.2
    simp only [List.map_cons, List.sum_cons, hv.1]
    omega
theorem pCond_inv {b : Bool} {P : Prop} (h : cond b P False) : b = true ∧ P := by
  cases b with
  | true => exact ⟨rfl, h⟩
  | false => exact h.elim
theorem pT_inv {v : Value} {k : List Int32 → Prop} (h : pT v k) : ∃ i t, v = .retAddr i ∧ (i < 5 ∧ t = pTx.getD i [] ∧ t.length = jLen i) ∧ k t := by
  cases v with
  | retAddr i =>
    obtain ⟨t, h1, h2⟩ := pSome_inv h
    have hi : i < 5 := pg_lt h1
    have ht : t = pTx.getD i [] := by
      rw [pg_eq] at h1
      rw [List.getD_eq_getElem?_getD, h1]; rfl
    refine ⟨i, t, rfl, ⟨hi, ht, ?_⟩, h2⟩
    rw [ht]
    exact (show ∀ i, i < 5 → (pTx.getD i []).length = jLen i by decide) i hi
  | _ => exact h.elim
theorem sT {adK : Nat → Nat} {b : Nat} {as : List Nat} {i : Nat} {st cst : List Value} (hi : i < 5) (h : (Value.retAddr i :: st).map (tv (pSa adK b) as) = cst.map some) : ∃ c, cst = .ref (adK i) :: c ∧ st.map (tv (pSa adK b) as) = c.map some := by
  obtain ⟨w, c, rfl, h1, h2⟩ := sV h
  refine ⟨c, ?_, h2⟩
  simp only [tv, pSa, if_pos hi, Option.map_some, Option.some.injEq] at h1
  rw [← h1]
theorem ok_txtLength {mt : Nat → pM} {law : Nat} {M : pM} {il : Bool} {sc : List Int32} {pc : Nat} {i : Nat} (hd : decode M.2.1 pc = .ok (.invokevirtual i, 3)) (hl1 : Cond.methodLink M.1.cls i yJ0_length_8abf5 ∈ lw_good) : pOk mt law M il sc pc (oTxtLength (pc + 3)) := by
  intro l D cI cO adK adV b B id ls st h Q hM hL hop p e R s m args below meth c H locs cells slots mc ms Z A as0 bs ws cls cst hC hX hw hP hD hS hl hst hB hF
  subst hM
  obtain ⟨v, r, rfl, h1⟩ := pPop_inv hop
  obtain ⟨k, t, rfl, ⟨hk, ht, htl⟩, h2⟩ := pT_inv h1
  obtain ⟨hs, h3⟩ := pCond_inv h2
  obtain ⟨c0, rfl, hst0⟩ := sT hk hst
  have hE := hC.2.2.2.2.2.2.2.2.2.1
  refine jCV (As := []) (n := 0) ⟨hC.1, hC.2.1, hC.2.2.1, hC.2.2.2.1, hC.2.2.2.2.1⟩ (j_length hk) rfl hl1 jw_i_le jw_e_le jw_c_le (by decide +kernel) rfl ⟨by omega, by omega, by decide⟩ ⟨by omega, by omega⟩ (vk_recv hE.2.2.1 hk hS) (fun U h1 h2 => jP.of hE hS h1 h2) (by obtain ⟨-, lv, g, -⟩ := hl; exact g.1) (by rw [tv_cats hst0]; exact pShort_sum 8 _ hs) hd (fun x hx => ?_)
  subst hx
  rw [← htl]
  exact h3 p e R s m args below meth c H locs cells slots mc ms Z A as0 bs ws cls _ hC hX hw hP hD hS hl (sC rfl hst0) hB hF
theorem ok_txtCharAt {mt : Nat → pM} {law : Nat} {M : pM} {il : Bool} {sc : List Int32} {pc : Nat} {i : Nat} (hd : decode M.2.1 pc = .ok (.invokevirtual i, 3)) (hl1 : Cond.methodLink M.1.cls i yJ0_charAt_5068e ∈ lw_good) : pOk mt law M il sc pc (oTxtCharAt (pc + 3)) := by
  intro l D cI cO adK adV b B id ls st h Q hM hL hop p e R s m args below meth c H locs cells slots mc ms Z A as0 bs ws cls cst hC hX hw hP hD hS hl hst hB hF
  subst hM
  obtain ⟨v, r, rfl, h1⟩ := pPop_inv hop
  obtain ⟨v2, r, rfl, h1⟩ := pPop_inv h1
  obtain ⟨j, rfl, h1⟩ := pI_inv h1
  obtain ⟨k, t, rfl, ⟨hk, ht, htl⟩, hj, h2⟩ := pT_inv h1
  obtain ⟨hs, h3⟩ := pCond_inv h2
  obtain ⟨c1, rfl, hst1⟩ := sI hst
  obtain ⟨c0, rfl, hst0⟩ := sT hk hst1
  have hE := hC.2.2.2.2.2.2.2.2.2.1
  rw [htl] at hj
  refine jCV (As := [.int j]) (n := 1) ⟨hC.1, hC.2.1, hC.2.2.1, hC.2.2.2.1, hC.2.2.2.2.1⟩ (j_char hk hj) rfl hl1 jw_i_ca jw_e_ca jw_c_ca (by decide +kernel) rfl ⟨by omega, by omega, by decide⟩ ⟨by omega, by omega⟩ (vk_recv hE.2.2.1 hk hS) (fun U h1 h2 => jP.of hE hS h1 h2) (by obtain ⟨-, lv, g, -⟩ := hl; exact g.1) (by rw [tv_cats hst0]; exact pShort_sum 8 _ hs) hd (fun x hx => ?_)
  subst hx
  subst ht
  exact h3 p e R s m args below meth c H locs cells slots mc ms Z A as0 bs ws cls _ hC hX hw hP hD hS hl (sC rfl hst0) hB hF
theorem ok_txtIndexOf {mt : Nat → pM} {law : Nat} {M : pM} {il : Bool} {sc : List Int32} {pc : Nat} {i : Nat} (hd : decode M.2.1 pc = .ok (.invokevirtual i, 3)) (hl1 : Cond.methodLink M.1.cls i yJ0_indexOf_0f7a4 ∈ lw_good) : pOk mt law M il sc pc (oTxtIndexOf (pc + 3)) := by
  intro l D cI cO adK adV b B id ls st h Q hM hL hop p e R s m args below meth c H locs cells slots mc ms Z A as0 bs ws cls cst hC hX hw hP hD hS hl hst hB hF
  subst hM
  obtain ⟨v, r, rfl, h1⟩ := pPop_inv hop
  obtain ⟨v2, r, rfl, h1⟩ := pPop_inv h1
  obtain ⟨j, rfl, h1⟩ := pI_inv h1
  obtain ⟨k, t, rfl, ⟨hk, ht, htl⟩, h2⟩ := pT_inv h1
  obtain ⟨hs, h3⟩ := pCond_inv h2
  obtain ⟨c1, rfl, hst1⟩ := sI hst
  obtain ⟨c0, rfl, hst0⟩ := sT hk hst1
  have hE := hC.2.2.2.2.2.2.2.2.2.1
  refine jCV (As := [.int j]) (n := 1) ⟨hC.1, hC.2.1, hC.2.2.1, hC.2.2.2.1, hC.2.2.2.2.1⟩ (j_ix hk) rfl hl1 jw_i_ix jw_e_ix jw_c_ix (by decide +kernel) rfl ⟨by omega, by omega, by decide⟩ ⟨by omega, by omega⟩ (vk_recv hE.2.2.1 hk hS) (fun U h1 h2 => jP.of hE hS h1 h2) (by obtain ⟨-, lv, g, -⟩ := hl; exact g.1) (by rw [tv_cats hst0]; exact pShort_sum 8 _ hs) hd (fun x hx => ?_)
  subst hx
  subst ht
  exact h3 p e R s m args below meth c H locs cells slots mc ms Z A as0 bs ws cls _ hC hX hw hP hD hS hl (sC rfl hst0) hB hF
theorem ok_copyR {mt : Nat → pM} {law : Nat} {M : pM} {il : Bool} {sc : List Int32} {pc : Nat} {i : Nat} (hd : decode M.2.1 pc = .ok (.invokestatic i, 3)) (hl1 : Cond.methodLink M.1.cls i yJ7_copyOfRange_feecc ∈ lw_good) : pOk mt law M il sc pc (oCopyR (pc + 3)) := by
  intro l D cI cO adK adV b B id ls st h Q hM hL hop p e R s m args below meth c H locs cells slots mc ms Z A as0 bs ws cls cst hC hX hw hP hD hS hl hst hB hF
  subst hM
  obtain ⟨v, r, rfl, h1⟩ := pPop_inv hop
  obtain ⟨v, r, rfl, h1a⟩ := pPop_inv h1
  obtain ⟨v, r, rfl, h1b⟩ := pPop_inv h1a
  obtain ⟨t, rfl, h1c⟩ := pI_inv h1b
  obtain ⟨f, rfl, h1d⟩ := pI_inv h1c
  obtain ⟨q, rfl, h1e⟩ := pR_inv h1d
  obtain ⟨xs, h7, ⟨g1, g2, g3, g4, g5, g6, g7, g8⟩, h2⟩ := pA_inv h1e
  obtain ⟨hs, h3⟩ := pCond_inv h2
  obtain ⟨c1, rfl, hst1⟩ := sI hst
  obtain ⟨c2, rfl, hst2⟩ := sI hst1
  obtain ⟨aq, c3, haq, rfl, hst3⟩ := sR hst2
  obtain ⟨a', e', ha', hws, htc⟩ := hw.2.2 q _ h7
  rw [haq] at ha'
  cases ha'
  cases htc
  obtain ⟨F, hF0, rfl⟩ := nI_of g3
  obtain ⟨T, hT0, rfl⟩ := nI_of g4
  rw [nI_clamp hF0, nI_clamp hT0] at g1 g6 h3
  rw [nI_clamp hT0] at g2
  have hts := hC.2.2.2.2.1
  have hE := hC.2.2.2.2.2.2.2.2.2.1
  have hA := hC.2.2.2.2.2.2.2.2.2.2
  have hfr : ∀ q, va_A ws H.size q → A q := by
    intro q hq
    rcases hq with ⟨k, e, hk⟩ | hq
    · exact hD.2 k _ hk
    · exact hA q (Nat.le_trans hS.1 hq)
  refine va_callr (A0 := A) (H0 := s.heap) (va_runS (nL := (mt id).2.2.1) (As := [.ref aq, .int (nI F), .int (nI T)]) (rest := c3) (n := 3) ⟨hC.1, hC.2.1, hC.2.2.1, hC.2.2.2.1, hts⟩ (k_range (D := D) (cO := cO) (adK := adK) (adV := adV) (sz := H.size) hws g1 g2 g8) ⟨callB_of 3 hts (good_in (fun w hw => by rcases List.mem_cons.mp hw with rfl | hw; exact jw_c_cr; exact hw)) rfl rfl rfl (hts _ jw_n_J7) (hts _ hl1) ⟨by decide, by decide, by decide +kernel⟩ ⟨by show 4 + 1 ≤ R.frames; omega, by show 8 + (3 + 11) + 60 * 4 ≤ R.locals; omega⟩, hts _ jw_s_cr⟩ ⟨kBlind, fun U h1 h2 => ⟨rfl, by rw [h1], by rw [h1]; exact hP, va_K.moved h2.alike hC.2.2.2.2.2.1, ⟨hD.1, fun _ _ _ => trivial⟩, hE.1.2.2.warmC h2, jP.of hE hS h1 h2⟩⟩ rfl rfl (by obtain ⟨-, lv, g, -⟩ := hl; exact g.1) rfl (lv_room (by rw [tv_cats hst3]; exact pShort_sum 8 _ hs)) hd ⟨by omega, by omega⟩) hS (fun q _ hq => hfr q hq) hfr (fun u ra t1 H1 locs1 ht1 hal _ hBB hz hk hS1 => ?_)
  obtain ⟨hP1, hD1⟩ := hBB
  rw [ht1] at hP1
  have hD2 := hD1.weaken (fun k q _ h => hfr q.1 h)
  have hw1 := hw.push (a := ra) (c := .inl ((xs.drop F).take (T - F))) (e := kE cI ((xs.drop F).take (T - F))) rfl
  have hq : pg (as0 ++ (bs ++ [ra])) h.length = some ra := by
    have hl2 : (as0 ++ bs).length = h.length := by rw [← hw.2.1, ← hw.1, List.length_map]
    rw [← List.append_assoc, pg_eq, List.getElem?_append_right (by omega), show h.length - (as0 ++ bs).length = 0 by omega]; rfl
  rw [List.append_assoc] at hw1
  exact h3 p e R s m args below meth c H1 locs1 (cells + 1) (slots + (T - F)) mc ms Z A as0 (bs ++ [ra]) _ cls _ hC hX hw1 hP1 hD2 hS1 (by rw [← List.append_assoc]; exact hl.app) (sC (by rw [tv, hq]; rfl) (by rw [← List.append_assoc]; exact tv_apps hst3)) ⟨hB.1, hB.2.1, by show cells + 1 + (B.2.1 - 1) ≤ mc; omega, by show slots + (T - F) + (B.2.2 - (T - F)) ≤ ms; omega, hB.2.2.2.2⟩ hF
