/-! New cells, the library's members, the script. -/
theorem ok_new {mt : Nat → pM} {law : Nat} {M : pM} {il : Bool} {sc : List Int32} {pc : Nat} {ci i N : Nat} {C : String} {T : u_T} {fs : List Value} (hd : decode M.2.1 pc = .ok (.new i, 3)) (hc : clsP[ci]? = some (C, T, N)) (hin : ∀ w ∈ u_ws C T N, w ∈ lw_good) (hty : ∀ k, k < N → parseFieldDescriptor (T k).2.2.1 = some (tyP ci k)) (hcl : Cond.classLink M.1.cls i C ∈ lw_good) (hinst : Cond.instantiable C N ∈ lw_good) (hini : Cond.initialized C ∈ lw_good) (hfs : ∀ j, j < N → defaultValue (tyP ci j) = vp_V fs j) (hN : fs.length = N) (hpl : ∀ sa as, fs.map (tv sa as) = fs.map some) : pOk mt law M il sc pc (oNew ci fs (pc + 3)) := by
  intro l D cI cO adK adV b B id ls st h Q hM hL hop p e R s m args below meth c H locs cells slots mc ms Z A as0 bs ws cls cst hC hX hw hP hD hS hl hst hB hF
  subst hM
  subst hN
  obtain ⟨⟨h1, h2⟩, h3⟩ := hop
  have hcx := hC.2.2.2.2.2.2.2.2.2.2
  refine va_new (ci := ci) (fs := fs) (C := C) (T := T) hC.1 hC.2.1 hC.2.2.2.2.1 hin (tyP ci) hty hC.2.2.2.1 (hC.2.2.2.2.1 _ hcl) (hC.2.2.2.2.1 _ hinst) (hC.2.2.2.2.1 _ hini) hC.2.2.2.2.2.1 hP hD hS hcx hc hfs (by omega) (by omega) hd (fun q H1 hP1 hD1 hS1 => ?_)
  have hw1 := hw.push (a := q) (c := .inr (ci, fs)) (e := .inr (ci, fs)) (tc_obj' hc (hpl _ _))
  have hq : pg (as0 ++ (bs ++ [q])) h.length = some q := by
    have hl2 : (as0 ++ bs).length = h.length := by rw [← hw.2.1, ← hw.1, List.length_map]
    rw [← List.append_assoc, pg_eq, List.getElem?_append_right (by omega), show h.length - (as0 ++ bs).length = 0 by omega]; rfl
  rw [List.append_assoc] at hw1
  exact h3 p e R s m args below meth c H1 locs (cells + 1) (slots + fs.length) mc ms Z A as0 (bs ++ [q]) _ cls _ hC hX hw1 hP1 hD1 hS1 (by rw [← List.append_assoc]; exact hl.app) (sC (by rw [tv, hq]; rfl) (by rw [← List.append_assoc]; exact tv_apps hst)) ⟨hB.1, hB.2.1, by show cells + 1 + (B.2.1 - 1) ≤ mc; omega, by show slots + fs.length + (B.2.2 - fs.length) ≤ ms; omega, hB.2.2.2.2⟩ hF
theorem va_K.sameI {D : va_G} {cl : List vw_C} {cI cO cA : ClassId} {U : State} (h : va_K D cl (pTys cI cO ++ [(cA, .int)]) U) : cA = cI := by
  have h1 : U.vm.findClass ("[" ++ FieldType.int.toString) = some cI := (h.2 0 _ rfl).2
  have h2 : U.vm.findClass ("[" ++ FieldType.int.toString) = some cA := (h.2 2 _ rfl).2
  rw [h1] at h2
  exact (Option.some.inj h2).symm
theorem va_K.sameO {D : va_G} {cl : List vw_C} {cI cO cA : ClassId} {U : State} (h : va_K D cl (pTys cI cO ++ [(cA, .object RX2)]) U) : cA = cO := by
  obtain ⟨k1, p1, -, -, -, h1⟩ := (h.2 1 _ rfl).2
  obtain ⟨k2, p2, -, -, -, h2⟩ := (h.2 2 _ rfl).2
  rw [h1] at h2
  exact (Option.some.inj h2).symm
theorem getD_rep (n j : Nat) : (List.replicate n (0 : Int32)).getD j 0 = 0 := by
  rw [List.getD_eq_getElem?_getD, List.getElem?_replicate]
  split <;> rfl
theorem ok_newarray {mt : Nat → pM} {law : Nat} {M : pM} {il : Bool} {sc : List Int32} {pc : Nat} (hd : decode M.2.1 pc = .ok (.newarray .int, 2)) (harr : Cond.arrayClass .int ∈ lw_good) : pOk mt law M il sc pc (oNewI (pc + 2)) := by
  intro l D cI cO adK adV b B id ls st h Q hM hL hop p e R s m args below meth c H locs cells slots mc ms Z A as0 bs ws cls cst hC hX hw hP hD hS hl hst hB hF
  subst hM
  obtain ⟨v, r, rfl, h1⟩ := pPop_inv hop
  obtain ⟨x, rfl, h2, ⟨h3, h4, h5⟩, h6⟩ := pI_inv h1
  obtain ⟨c0, rfl, hst0⟩ := sI hst
  have hcx := hC.2.2.2.2.2.2.2.2.2.2
  refine va_newa (atype := .int) (ty := .int) (N' := x.toNatClampNeg) (a0 := (x.toNatClampNeg, .inl (fun j => (List.replicate x.toNatClampNeg (0 : Int32)).getD j 0))) hC.1 hC.2.1 (hC.2.2.2.2.1 _ harr) rfl hC.2.2.2.2.2.1 hP hD hS hcx (fun cA => by simp only [getD_rep]; rfl) h2 rfl (by show x.toNatClampNeg * 4 ≤ _; omega) (by omega) (by omega) hd (fun q cA H1 hK1 hP1 hD1 hS1 => ?_)
  have hcA := va_K.sameI hK1
  subst hcA
  have hw1 := hw.push (a := q) (c := .inl (List.replicate x.toNatClampNeg 0)) (e := .inl (cA, x.toNatClampNeg, .inl (fun j => (List.replicate x.toNatClampNeg (0 : Int32)).getD j 0))) (by show _ = _; rw [List.length_replicate])
  have hq : pg (as0 ++ (bs ++ [q])) h.length = some q := by
    have hl2 : (as0 ++ bs).length = h.length := by rw [← hw.2.1, ← hw.1, List.length_map]
    rw [← List.append_assoc, pg_eq, List.getElem?_append_right (by omega), show h.length - (as0 ++ bs).length = 0 by omega]; rfl
  rw [List.append_assoc] at hw1
  exact h6 p e R s m args below meth c H1 locs (cells + 1) (slots + x.toNatClampNeg) mc ms Z A as0 (bs ++ [q]) _ cls _ hC hX hw1 hP1 hD1 hS1 (by rw [← List.append_assoc]; exact hl.app) (sC (by rw [tv, hq]; rfl) (by rw [← List.append_assoc]; exact tv_apps hst0)) ⟨hB.1, hB.2.1, by show cells + 1 + (B.2.1 - 1) ≤ mc; omega, by show slots + x.toNatClampNeg + (B.2.2 - x.toNatClampNeg) ≤ ms; omega, hB.2.2.2.2⟩ hF
theorem ok_anewarray {mt : Nat → pM} {law : Nat} {M : pM} {il : Bool} {sc : List Int32} {pc : Nat} {i : Nat} (hd : decode M.2.1 pc = .ok (.anewarray i, 3)) (hcl : Cond.classLink M.1.cls i RX2 ∈ lw_good) : pOk mt law M il sc pc (oNewA (pc + 3)) := by
  intro l D cI cO adK adV b B id ls st h Q hM hL hop p e R s m args below meth c H locs cells slots mc ms Z A as0 bs ws cls cst hC hX hw hP hD hS hl hst hB hF
  subst hM
  obtain ⟨v, r, rfl, h1⟩ := pPop_inv hop
  obtain ⟨x, rfl, h2, ⟨h3, h4, h5⟩, h6⟩ := pI_inv h1
  obtain ⟨c0, rfl, hst0⟩ := sI hst
  have hcx := hC.2.2.2.2.2.2.2.2.2.2
  refine va_newq (C := RX2) (N' := x.toNatClampNeg) hC.1 hC.2.1 hC.2.2.2.1 (hC.2.2.2.2.1 _ hcl) hC.2.2.2.2.2.2.2.2.2.1.1.2.1 hC.2.2.2.2.2.1 hP hD hS hcx h2 rfl (by omega) (by omega) (by omega) hd (fun q cA H1 hK1 hP1 hD1 hS1 => ?_)
  have hcA := va_K.sameO hK1
  subst hcA
  have hw1 := hw.push (a := q) (c := .inr (50, List.replicate x.toNatClampNeg .null)) (e := .inl (cA, x.toNatClampNeg, .inr (.inr (.inr (.inr (fun _ => none)))))) ⟨fun _ => none, by rw [List.length_replicate], fun j v hj => by
    rw [pg_eq, List.getElem?_replicate] at hj
    split at hj
    · cases hj; rfl
    · cases hj⟩
  have hq : pg (as0 ++ (bs ++ [q])) h.length = some q := by
    have hl2 : (as0 ++ bs).length = h.length := by rw [← hw.2.1, ← hw.1, List.length_map]
    rw [← List.append_assoc, pg_eq, List.getElem?_append_right (by omega), show h.length - (as0 ++ bs).length = 0 by omega]; rfl
  rw [List.append_assoc] at hw1
  exact h6 p e R s m args below meth c H1 locs (cells + 1) (slots + x.toNatClampNeg) mc ms Z A as0 (bs ++ [q]) _ cls _ hC hX hw1 hP1 hD1 hS1 (by rw [← List.append_assoc]; exact hl.app) (sC (by rw [tv, hq]; rfl) (by rw [← List.append_assoc]; exact tv_apps hst0)) ⟨hB.1, hB.2.1, by show cells + 1 + (B.2.1 - 1) ≤ mc; omega, by show slots + x.toNatClampNeg + (B.2.2 - x.toNatClampNeg) ≤ ms; omega, hB.2.2.2.2⟩ hF
theorem ok_obj {mt : Nat → pM} {law : Nat} {M : pM} {il : Bool} {sc : List Int32} {pc : Nat} {i : Nat} (hd : decode M.2.1 pc = .ok (.invokespecial i, 3)) (hl1 : Cond.methodLink M.1.cls i objectInit ∈ lw_good) (hl2 : Cond.instanceMethod objectInit ∈ lw_good) (hl3 : Cond.code objectInit ⟨#[0xb1]⟩ 1 none ∈ lw_good) : pOk mt law M il sc pc (oObj (pc + 3)) := by
  intro l D cI cO adK adV b B id ls st h Q hM hL hop p e R s m args below meth c H locs cells slots mc ms Z A as0 bs ws cls cst hC hX hw hP hD hS hl hst hB hF
  subst hM
  obtain ⟨v, r, rfl, h1⟩ := pPop_inv hop
  obtain ⟨x, rfl, ⟨h2, h3⟩, h4⟩ := pR_inv h1
  obtain ⟨a, c1, ha, rfl, hst1⟩ := sR hst
  have hts := hC.2.2.2.2.1
  refine W.objInit hC.1 hC.2.1 hC.2.2.2.1 (hts _ hl1) (hts _ hl2) (hts _ hl3) rfl (by rw [hC.2.2.1]; obtain ⟨-, lv, g, -⟩ := hl; exact g.1) rfl hd (by omega) (by
    rw [tv_cats hst1]
    show 2 * 0 + _ + 12 ≤ _
    omega) ?_
  exact h4 p e R s m args below meth c H locs cells slots mc ms Z A as0 bs ws cls _ hC hX hw hP hD hS hl hst1 hB hF
theorem ok_max {mt : Nat → pM} {law : Nat} {M : pM} {il : Bool} {sc : List Int32} {pc : Nat} {i : Nat} (hd : decode M.2.1 pc = .ok (.invokestatic i, 3)) (hl1 : Cond.methodLink M.1.cls i Lib.Math.max.name ∈ lw_good) (hl2 : Cond.static Lib.Math.max.name ∈ lw_good) (hl3 : Cond.initialized "java/lang/Math" ∈ lw_good) (hl4 : Cond.code Lib.Math.max.name Lib.Math.max.code 2 (some .int) ∈ lw_good) : pOk mt law M il sc pc (oMax (pc + 3)) := by
  intro l D cI cO adK adV b B id ls st h Q hM hL hop p e R s m args below meth c H locs cells slots mc ms Z A as0 bs ws cls cst hC hX hw hP hD hS hl hst hB hF
  subst hM
  obtain ⟨x, y, r, rfl, ⟨h1, h2⟩, h3⟩ := p2_inv hop
  obtain ⟨c1, rfl, hst1⟩ := sI hst
  obtain ⟨c2, rfl, hst2⟩ := sI hst1
  have hts := hC.2.2.2.2.1
  refine va_mmax hC.1 hC.2.1 (by rw [hC.2.2.1]; obtain ⟨-, lv, g, -⟩ := hl; exact g.1.symm) hC.2.2.2.1 (hts _ hl1) (hts _ hl2) (hts _ hl3) (hts _ hl4) (by omega) (by rw [tv_cats hst2]; omega) (by omega) (by omega) hd ?_
  exact h3 p e R s m args below meth c H locs cells slots mc ms Z A as0 bs ws cls _ hC hX hw hP hD hS hl (sC rfl hst2) hB hF
theorem ok_min {mt : Nat → pM} {law : Nat} {M : pM} {il : Bool} {sc : List Int32} {pc : Nat} {i : Nat} (hd : decode M.2.1 pc = .ok (.invokestatic i, 3)) (hl1 : Cond.methodLink M.1.cls i Lib.Math.min.name ∈ lw_good) (hl2 : Cond.static Lib.Math.min.name ∈ lw_good) (hl3 : Cond.initialized "java/lang/Math" ∈ lw_good) (hl4 : Cond.code Lib.Math.min.name Lib.Math.min.code 2 (some .int) ∈ lw_good) : pOk mt law M il sc pc (oMin (pc + 3)) := by
  intro l D cI cO adK adV b B id ls st h Q hM hL hop p e R s m args below meth c H locs cells slots mc ms Z A as0 bs ws cls cst hC hX hw hP hD hS hl hst hB hF
  subst hM
  obtain ⟨x, y, r, rfl, ⟨h1, h2⟩, h3⟩ := p2_inv hop
  obtain ⟨c1, rfl, hst1⟩ := sI hst
  obtain ⟨c2, rfl, hst2⟩ := sI hst1
  have hts := hC.2.2.2.2.1
  refine va_mmin hC.1 hC.2.1 (by rw [hC.2.2.1]; obtain ⟨-, lv, g, -⟩ := hl; exact g.1.symm) hC.2.2.2.1 (hts _ hl1) (hts _ hl2) (hts _ hl3) (hts _ hl4) (by omega) (by rw [tv_cats hst2]; omega) (by omega) (by omega) hd ?_
  exact h3 p e R s m args below meth c H locs cells slots mc ms Z A as0 bs ws cls _ hC hX hw hP hD hS hl (sC rfl hst2) hB hF
theorem getD_copy {xs ys : List Int32} {sp dp n : Nat} (h1 : sp + n ≤ xs.length) (h2 : dp + n ≤ ys.length) : va_cpy (fun j => xs.getD j 0) (fun j => ys.getD j 0) sp dp n = fun j => (pCopy xs ys sp dp n).getD j 0 := by
  funext j
  simp only [va_cpy, pCopy, List.getD_eq_getElem?_getD]
  have e1 : (ys.take dp).length = dp := by rw [List.length_take]; omega
  have e2 : ((xs.drop sp).take n).length = n := by rw [List.length_take, List.length_drop]; omega
  by_cases hj : j < dp
  · rw [if_neg (by omega), List.append_assoc, List.getElem?_append_left (by omega), List.getElem?_take_of_lt hj]
  · by_cases hj2 : j < dp + n
    · rw [if_pos (by omega), List.append_assoc, List.getElem?_append_right (by omega), List.getElem?_append_left (by omega), e1, List.getElem?_take_of_lt (by omega), List.getElem?_drop]
    · rw [if_neg (by omega), List.getElem?_append_right (by rw [List.length_append]; omega), List.length_append, e1, e2, List.getElem?_drop]
      rw [show dp + n + (j - (dp + n)) = j by omega]
theorem pCopy_len {xs ys : List Int32} {sp dp n : Nat} (h1 : sp + n ≤ xs.length) (h2 : dp + n ≤ ys.length) : (pCopy xs ys sp dp n).length = ys.length := by
  simp only [pCopy, List.length_append, List.length_take, List.length_drop]
  omega
theorem ok_copy {mt : Nat → pM} {law : Nat} {M : pM} {il : Bool} {sc : List Int32} {pc : Nat} {i : Nat} (hd : decode M.2.1 pc = .ok (.invokestatic i, 3)) (hl1 : Cond.methodLink M.1.cls i arraycopyName ∈ lw_good) (hl2 : Cond.native arraycopyName ∈ lw_good) (hl3 : Cond.static arraycopyName ∈ lw_good) (hl4 : Cond.initialized "java/lang/System" ∈ lw_good) : pOk mt law M il sc pc (oCopy (pc + 3)) := by
  intro l D cI cO adK adV b B id ls st h Q hM hL hop p e R s m args below meth c H locs cells slots mc ms Z A as0 bs ws cls cst hC hX hw hP hD hS hl hst hB hF
  subst hM
  obtain ⟨v, r, rfl, h1⟩ := pPop_inv hop
  obtain ⟨v, r, rfl, h1a⟩ := pPop_inv h1
  obtain ⟨v, r, rfl, h1b⟩ := pPop_inv h1a
  obtain ⟨v, r, rfl, h1c⟩ := pPop_inv h1b
  obtain ⟨v, r, rfl, h1d⟩ := pPop_inv h1c
  obtain ⟨n, rfl, h2⟩ := pI_inv h1d
  obtain ⟨dp, rfl, h3⟩ := pI_inv h2
  obtain ⟨d, rfl, h4⟩ := pR_inv h3
  obtain ⟨sp, rfl, h5⟩ := pI_inv h4
  obtain ⟨q, rfl, h6⟩ := pR_inv h5
  obtain ⟨xs, h7, h8⟩ := pA_inv h6
  obtain ⟨ys, h9, ⟨⟨g1, g2⟩, ⟨g3, g4, g5⟩, g6, g7⟩, g8⟩ := pA_inv h8
  obtain ⟨c1, rfl, hst1⟩ := sI hst
  obtain ⟨c2, rfl, hst2⟩ := sI hst1
  obtain ⟨ad, c3, had, rfl, hst3⟩ := sR hst2
  obtain ⟨c4, rfl, hst4⟩ := sI hst3
  obtain ⟨aq, c5, haq, rfl, hst5⟩ := sR hst4
  obtain ⟨a', e', ha', hws, htc⟩ := hw.2.2 q _ h7
  rw [haq] at ha'
  cases ha'
  cases htc
  obtain ⟨a', e', ha', hws2, htc⟩ := hw.2.2 d _ h9
  rw [had] at ha'
  cases ha'
  cases htc
  have hts := hC.2.2.2.2.1
  refine va_copyi (ty := .int) hC.1 hC.2.1 (by rw [hC.2.2.1]; obtain ⟨-, lv, g, -⟩ := hl; exact g.1.symm) hC.2.2.2.1 (hts _ hl1) (hts _ hl2) (hts _ hl3) (hts _ hl4) hC.2.2.2.2.2.1 hP hD hS q d 0 0 hws hws2 rfl rfl rfl g3 g4 g5 g6 g7 (fun _ _ => rfl) (by omega) (by
    rw [tv_cats hst5]
    have : nativeFrameWords "java/lang/System" "arraycopy" 5 ≤ 40 := by decide
    omega) hd (fun H1 locs1 hP1 hD1 hS1 => ?_)
  rw [getD_copy g6 g7] at hP1 hD1
  rw [pHs_eq] at g8
  exact g8 p e R s m args below meth c H1 locs1 cells slots mc ms Z A as0 bs _ cls _ hC hX (hw.set (pg_lt h9) had (by show _ = _; rw [pCopy_len g6 g7])) hP1 hD1 hS1 hl hst5 hB hF
theorem ok_sld {mt : Nat → pM} {law : Nat} {M : pM} {sc : List Int32} {pc : Nat} (hd : decode M.2.1 pc = .ok (.iaload, 1)) : pOk mt law M true sc pc (oSld sc (pc + 1)) := by
  intro l D cI cO adK adV b B id ls st h Q hM hL hop p e R s m args below meth c H locs cells slots mc ms Z A as0 bs ws cls cst hC hX hw hP hD hS hl hst hB hF
  subst hM
  obtain ⟨v, r, rfl, h1⟩ := pPop_inv hop
  obtain ⟨a, r, rfl, h1a⟩ := pPop_inv h1
  obtain ⟨j, rfl, ⟨rfl, h2⟩, h3⟩ := pI_inv h1a
  obtain ⟨c0, rfl, hst0⟩ := sI hst
  obtain ⟨w, c1, rfl, hv, hst1⟩ := sV hst0
  have hv2 : w = .ref b := by simp [tv, pSa] at hv; exact hv.symm
  subst hv2
  obtain ⟨x1, x2, x3⟩ := hX (hL rfl)
  refine va_sld hC.1 hC.2.1 x1 x2 x3 hS h2 hd ?_
  exact h3 p e R s m args below meth c H locs cells slots mc ms Z A as0 bs ws cls _ hC hX hw hP hD hS hl (sC rfl hst1) hB hF
theorem ok_slen {mt : Nat → pM} {law : Nat} {M : pM} {sc : List Int32} {pc : Nat} (hd : decode M.2.1 pc = .ok (.arraylength, 1)) : pOk mt law M true sc pc (oSlen sc (pc + 1)) := by
  intro l D cI cO adK adV b B id ls st h Q hM hL hop p e R s m args below meth c H locs cells slots mc ms Z A as0 bs ws cls cst hC hX hw hP hD hS hl hst hB hF
  subst hM
  obtain ⟨v, r, rfl, rfl, h3⟩ := pPop_inv hop
  obtain ⟨w, c1, rfl, hv, hst1⟩ := sV hst
  have hv2 : w = .ref b := by simp [tv, pSa] at hv; exact hv.symm
  subst hv2
  obtain ⟨x1, x2, x3⟩ := hX (hL rfl)
  refine va_slen hC.1 hC.2.1 x1 x2 x3 hS hd ?_
  exact h3 p e R s m args below meth c H locs cells slots mc ms Z A as0 bs ws cls _ hC hX hw hP hD hS hl (sC rfl hst1) hB hF
