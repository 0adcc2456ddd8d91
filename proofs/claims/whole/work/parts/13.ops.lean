/-! The rows of the instructions that leave the heap as it is (printed by wip/whole/ops.py). -/
theorem ok_F {mt : Nat → pM} {law : Nat} {M : pM} {il : Bool} {sc : List Int32} {pc : Nat} : pOk mt law M il sc pc oF := fun _ _ _ _ _ _ _ _ _ _ _ _ _ _ _ h => h.elim
theorem ok_iconst {mt : Nat → pM} {law : Nat} {M : pM} {il : Bool} {sc : List Int32} {pc : Nat} {k : Int} {v : Int32} (hd : decode M.2.1 pc = .ok (.iconst k, 1)) (hv : Int32.ofInt k = v) : pOk mt law M il sc pc (oPush (.int v) (pc + 1)) := by
  intro l D cI cO adK adV b B id ls st h Q hM hL hop p e R s m args below meth c H locs cells slots mc ms Z A as0 bs ws cls cst hC hX hw hP hD hS hl hst hB hF
  subst hM
  refine lv_iconst hC.1 hC.2.1 hd hv ?_
  exact hop p e R s m args below meth c H locs cells slots mc ms Z A as0 bs ws cls _ hC hX hw hP hD hS hl (sC rfl hst) hB hF
theorem ok_bipush {mt : Nat → pM} {law : Nat} {M : pM} {il : Bool} {sc : List Int32} {pc : Nat} {k : Int} {v : Int32} (hd : decode M.2.1 pc = .ok (.bipush k, 2)) (hv : (Int8.ofInt k).toInt32 = v) : pOk mt law M il sc pc (oPush (.int v) (pc + 2)) := by
  intro l D cI cO adK adV b B id ls st h Q hM hL hop p e R s m args below meth c H locs cells slots mc ms Z A as0 bs ws cls cst hC hX hw hP hD hS hl hst hB hF
  subst hM
  refine lv_bipush hC.1 hC.2.1 hd hv ?_
  exact hop p e R s m args below meth c H locs cells slots mc ms Z A as0 bs ws cls _ hC hX hw hP hD hS hl (sC rfl hst) hB hF
theorem ok_sipush {mt : Nat → pM} {law : Nat} {M : pM} {il : Bool} {sc : List Int32} {pc : Nat} {k : Int} {v : Int32} (hd : decode M.2.1 pc = .ok (.sipush k, 3)) (hv : (Int16.ofInt k).toInt32 = v) : pOk mt law M il sc pc (oPush (.int v) (pc + 3)) := by
  intro l D cI cO adK adV b B id ls st h Q hM hL hop p e R s m args below meth c H locs cells slots mc ms Z A as0 bs ws cls cst hC hX hw hP hD hS hl hst hB hF
  subst hM
  refine lv_sipush hC.1 hC.2.1 hd hv ?_
  exact hop p e R s m args below meth c H locs cells slots mc ms Z A as0 bs ws cls _ hC hX hw hP hD hS hl (sC rfl hst) hB hF
theorem ok_iload_n {mt : Nat → pM} {law : Nat} {M : pM} {il : Bool} {sc : List Int32} {pc : Nat} {k : Fin 4} {i : Nat} (hd : decode M.2.1 pc = .ok (.iload_n k, 1)) (hi : (k : Nat) = i) : pOk mt law M il sc pc (oLoadI i (pc + 1)) := by
  intro l D cI cO adK adV b B id ls st h Q hM hL hop p e R s m args below meth c H locs cells slots mc ms Z A as0 bs ws cls cst hC hX hw hP hD hS hl hst hB hF
  subst hM
  obtain ⟨o, h1, h2⟩ := pSome_inv hop
  obtain ⟨v, rfl, h3⟩ := pSome_inv h2
  obtain ⟨x, rfl, h4⟩ := pI_inv h3
  obtain ⟨w, q1, q2⟩ := hl.at h1
  cases q1
  refine lv_iload_n hC.1 hC.2.1 hd hi q2 ?_
  exact h4 p e R s m args below meth c H locs cells slots mc ms Z A as0 bs ws cls _ hC hX hw hP hD hS hl (sC rfl hst) hB hF
theorem ok_iload {mt : Nat → pM} {law : Nat} {M : pM} {il : Bool} {sc : List Int32} {pc : Nat} {i : Nat} (hd : decode M.2.1 pc = .ok (.iload i, 2)) : pOk mt law M il sc pc (oLoadI i (pc + 2)) := by
  intro l D cI cO adK adV b B id ls st h Q hM hL hop p e R s m args below meth c H locs cells slots mc ms Z A as0 bs ws cls cst hC hX hw hP hD hS hl hst hB hF
  subst hM
  obtain ⟨o, h1, h2⟩ := pSome_inv hop
  obtain ⟨v, rfl, h3⟩ := pSome_inv h2
  obtain ⟨x, rfl, h4⟩ := pI_inv h3
  obtain ⟨w, q1, q2⟩ := hl.at h1
  cases q1
  refine lv_iload hC.1 hC.2.1 hd q2 ?_
  exact h4 p e R s m args below meth c H locs cells slots mc ms Z A as0 bs ws cls _ hC hX hw hP hD hS hl (sC rfl hst) hB hF
theorem ok_lload_n {mt : Nat → pM} {law : Nat} {M : pM} {il : Bool} {sc : List Int32} {pc : Nat} {k : Fin 4} {i : Nat} (hd : decode M.2.1 pc = .ok (.lload_n k, 1)) (hi : (k : Nat) = i) : pOk mt law M il sc pc (oLoadL i (pc + 1)) := by
  intro l D cI cO adK adV b B id ls st h Q hM hL hop p e R s m args below meth c H locs cells slots mc ms Z A as0 bs ws cls cst hC hX hw hP hD hS hl hst hB hF
  subst hM
  obtain ⟨o, h1, h2⟩ := pSome_inv hop
  obtain ⟨v, rfl, h3⟩ := pSome_inv h2
  obtain ⟨x, rfl, h4⟩ := pJ_inv h3
  obtain ⟨w, q1, q2⟩ := hl.at h1
  cases q1
  refine lv_lload_n hC.1 hC.2.1 hd hi q2 ?_
  exact h4 p e R s m args below meth c H locs cells slots mc ms Z A as0 bs ws cls _ hC hX hw hP hD hS hl (sC rfl hst) hB hF
theorem ok_lload {mt : Nat → pM} {law : Nat} {M : pM} {il : Bool} {sc : List Int32} {pc : Nat} {i : Nat} (hd : decode M.2.1 pc = .ok (.lload i, 2)) : pOk mt law M il sc pc (oLoadL i (pc + 2)) := by
  intro l D cI cO adK adV b B id ls st h Q hM hL hop p e R s m args below meth c H locs cells slots mc ms Z A as0 bs ws cls cst hC hX hw hP hD hS hl hst hB hF
  subst hM
  obtain ⟨o, h1, h2⟩ := pSome_inv hop
  obtain ⟨v, rfl, h3⟩ := pSome_inv h2
  obtain ⟨x, rfl, h4⟩ := pJ_inv h3
  obtain ⟨w, q1, q2⟩ := hl.at h1
  cases q1
  refine lv_lload hC.1 hC.2.1 hd q2 ?_
  exact h4 p e R s m args below meth c H locs cells slots mc ms Z A as0 bs ws cls _ hC hX hw hP hD hS hl (sC rfl hst) hB hF
theorem ok_aload_n {mt : Nat → pM} {law : Nat} {M : pM} {il : Bool} {sc : List Int32} {pc : Nat} {k : Fin 4} {i : Nat} (hd : decode M.2.1 pc = .ok (.aload_n k, 1)) (hi : (k : Nat) = i) : pOk mt law M il sc pc (oLoadA i (pc + 1)) := by
  intro l D cI cO adK adV b B id ls st h Q hM hL hop p e R s m args below meth c H locs cells slots mc ms Z A as0 bs ws cls cst hC hX hw hP hD hS hl hst hB hF
  subst hM
  obtain ⟨o, h1, h2⟩ := pSome_inv hop
  obtain ⟨v, rfl, h3⟩ := pSome_inv h2
  obtain ⟨w, q1, q2⟩ := hl.at h1
  have hw2 : ∃ a, w = .ref a := by
    cases v with
    | ref j => simp only [tv, Option.map_eq_some_iff] at q1; obtain ⟨a, -, q⟩ := q1; exact ⟨a, q.symm⟩
    | retAddr j => simp only [tv, Option.map_eq_some_iff] at q1; obtain ⟨a, -, q⟩ := q1; exact ⟨a, q.symm⟩
    | _ => exact h3.elim
  obtain ⟨a, rfl⟩ := hw2
  refine lv_aload_n hC.1 hC.2.1 hd hi q2 ?_
  have h4 : pSnd mt law l D cI cO adK adV b sc B id (pc + 1) ls (v :: st) h Q := by
    cases v with
    | ref j => exact h3
    | retAddr j => exact h3
    | _ => exact h3.elim
  exact h4 p e R s m args below meth c H locs cells slots mc ms Z A as0 bs ws cls _ hC hX hw hP hD hS hl (sC q1 hst) hB hF
theorem ok_aload {mt : Nat → pM} {law : Nat} {M : pM} {il : Bool} {sc : List Int32} {pc : Nat} {i : Nat} (hd : decode M.2.1 pc = .ok (.aload i, 2)) : pOk mt law M il sc pc (oLoadA i (pc + 2)) := by
  intro l D cI cO adK adV b B id ls st h Q hM hL hop p e R s m args below meth c H locs cells slots mc ms Z A as0 bs ws cls cst hC hX hw hP hD hS hl hst hB hF
  subst hM
  obtain ⟨o, h1, h2⟩ := pSome_inv hop
  obtain ⟨v, rfl, h3⟩ := pSome_inv h2
  obtain ⟨w, q1, q2⟩ := hl.at h1
  have hw2 : ∃ a, w = .ref a := by
    cases v with
    | ref j => simp only [tv, Option.map_eq_some_iff] at q1; obtain ⟨a, -, q⟩ := q1; exact ⟨a, q.symm⟩
    | retAddr j => simp only [tv, Option.map_eq_some_iff] at q1; obtain ⟨a, -, q⟩ := q1; exact ⟨a, q.symm⟩
    | _ => exact h3.elim
  obtain ⟨a, rfl⟩ := hw2
  refine lv_aload hC.1 hC.2.1 hd q2 ?_
  have h4 : pSnd mt law l D cI cO adK adV b sc B id (pc + 2) ls (v :: st) h Q := by
    cases v with
    | ref j => exact h3
    | retAddr j => exact h3
    | _ => exact h3.elim
  exact h4 p e R s m args below meth c H locs cells slots mc ms Z A as0 bs ws cls _ hC hX hw hP hD hS hl (sC q1 hst) hB hF
theorem ok_istore_n {mt : Nat → pM} {law : Nat} {M : pM} {il : Bool} {sc : List Int32} {pc : Nat} {k : Fin 4} {i : Nat} (hd : decode M.2.1 pc = .ok (.istore_n k, 1)) (hi : (k : Nat) = i) : pOk mt law M il sc pc (oStoreI i (pc + 1)) := by
  intro l D cI cO adK adV b B id ls st h Q hM hL hop p e R s m args below meth c H locs cells slots mc ms Z A as0 bs ws cls cst hC hX hw hP hD hS hl hst hB hF
  subst hM
  obtain ⟨v, r, rfl, h1⟩ := pPop_inv hop
  obtain ⟨x, rfl, h2⟩ := pI_inv h1
  cases hb : Nat.ble (i + 1) ls.length with
  | false => rw [hb] at h2; exact h2.elim
  | true =>
    rw [hb, cond_true] at h2
    simp only [pKillK_eq, pHs_eq] at h2
    have hi2 : i + 1 ≤ (mt id).2.2.1 := hl.1 ▸ Nat.le_of_ble_eq_true hb
    obtain ⟨lv, g1, g2⟩ := hl.set
    obtain ⟨cr, rfl, hst2⟩ := sI hst
    refine lv_istore_n hC.1 hC.2.1 hd hi g1 (by omega) rfl (fun cls' hl' => ?_)
    exact h2 p e R s m args below meth c H locs cells slots mc ms Z A as0 bs ws cls' _ hC hX hw hP hD hS (g2 i (.int x) _ cls' (by omega) rfl hl') hst2 hB hF
theorem ok_istore {mt : Nat → pM} {law : Nat} {M : pM} {il : Bool} {sc : List Int32} {pc : Nat} {i : Nat} (hd : decode M.2.1 pc = .ok (.istore i, 2)) : pOk mt law M il sc pc (oStoreI i (pc + 2)) := by
  intro l D cI cO adK adV b B id ls st h Q hM hL hop p e R s m args below meth c H locs cells slots mc ms Z A as0 bs ws cls cst hC hX hw hP hD hS hl hst hB hF
  subst hM
  obtain ⟨v, r, rfl, h1⟩ := pPop_inv hop
  obtain ⟨x, rfl, h2⟩ := pI_inv h1
  cases hb : Nat.ble (i + 1) ls.length with
  | false => rw [hb] at h2; exact h2.elim
  | true =>
    rw [hb, cond_true] at h2
    simp only [pKillK_eq, pHs_eq] at h2
    have hi2 : i + 1 ≤ (mt id).2.2.1 := hl.1 ▸ Nat.le_of_ble_eq_true hb
    obtain ⟨lv, g1, g2⟩ := hl.set
    obtain ⟨cr, rfl, hst2⟩ := sI hst
    refine lv_istore hC.1 hC.2.1 hd g1 (by omega) rfl (fun cls' hl' => ?_)
    exact h2 p e R s m args below meth c H locs cells slots mc ms Z A as0 bs ws cls' _ hC hX hw hP hD hS (g2 i (.int x) _ cls' (by omega) rfl hl') hst2 hB hF
theorem ok_astore_n {mt : Nat → pM} {law : Nat} {M : pM} {il : Bool} {sc : List Int32} {pc : Nat} {k : Fin 4} {i : Nat} (hd : decode M.2.1 pc = .ok (.astore_n k, 1)) (hi : (k : Nat) = i) : pOk mt law M il sc pc (oStoreA i (pc + 1)) := by
  intro l D cI cO adK adV b B id ls st h Q hM hL hop p e R s m args below meth c H locs cells slots mc ms Z A as0 bs ws cls cst hC hX hw hP hD hS hl hst hB hF
  subst hM
  obtain ⟨v, r, rfl, h1⟩ := pPop_inv hop
  obtain ⟨x, rfl, h2⟩ := pR_inv h1
  cases hb : Nat.ble (i + 1) ls.length with
  | false => rw [hb] at h2; exact h2.elim
  | true =>
    rw [hb, cond_true] at h2
    simp only [pKillK_eq, pHs_eq] at h2
    have hi2 : i + 1 ≤ (mt id).2.2.1 := hl.1 ▸ Nat.le_of_ble_eq_true hb
    obtain ⟨lv, g1, g2⟩ := hl.set
    obtain ⟨a, cr, ha, rfl, hst2⟩ := sR hst
    refine lv_astore_n hC.1 hC.2.1 hd hi g1 (by omega) rfl (fun cls' hl' => ?_)
    exact h2 p e R s m args below meth c H locs cells slots mc ms Z A as0 bs ws cls' _ hC hX hw hP hD hS (g2 i (.ref x) _ cls' (by omega) (by rw [tv, ha]; rfl) hl') hst2 hB hF
theorem ok_astore {mt : Nat → pM} {law : Nat} {M : pM} {il : Bool} {sc : List Int32} {pc : Nat} {i : Nat} (hd : decode M.2.1 pc = .ok (.astore i, 2)) : pOk mt law M il sc pc (oStoreA i (pc + 2)) := by
  intro l D cI cO adK adV b B id ls st h Q hM hL hop p e R s m args below meth c H locs cells slots mc ms Z A as0 bs ws cls cst hC hX hw hP hD hS hl hst hB hF
  subst hM
  obtain ⟨v, r, rfl, h1⟩ := pPop_inv hop
  obtain ⟨x, rfl, h2⟩ := pR_inv h1
  cases hb : Nat.ble (i + 1) ls.length with
  | false => rw [hb] at h2; exact h2.elim
  | true =>
    rw [hb, cond_true] at h2
    simp only [pKillK_eq, pHs_eq] at h2
    have hi2 : i + 1 ≤ (mt id).2.2.1 := hl.1 ▸ Nat.le_of_ble_eq_true hb
    obtain ⟨lv, g1, g2⟩ := hl.set
    obtain ⟨a, cr, ha, rfl, hst2⟩ := sR hst
    refine lv_astore hC.1 hC.2.1 hd g1 (by omega) rfl (fun cls' hl' => ?_)
    exact h2 p e R s m args below meth c H locs cells slots mc ms Z A as0 bs ws cls' _ hC hX hw hP hD hS (g2 i (.ref x) _ cls' (by omega) (by rw [tv, ha]; rfl) hl') hst2 hB hF
theorem ok_lstore_n {mt : Nat → pM} {law : Nat} {M : pM} {il : Bool} {sc : List Int32} {pc : Nat} {k : Fin 4} {i : Nat} (hd : decode M.2.1 pc = .ok (.lstore_n k, 1)) (hi : (k : Nat) = i) : pOk mt law M il sc pc (oStoreL i (pc + 1)) := by
  intro l D cI cO adK adV b B id ls st h Q hM hL hop p e R s m args below meth c H locs cells slots mc ms Z A as0 bs ws cls cst hC hX hw hP hD hS hl hst hB hF
  subst hM
  obtain ⟨v, r, rfl, h1⟩ := pPop_inv hop
  obtain ⟨x, rfl, h2⟩ := pJ_inv h1
  cases hb : Nat.ble (i + 2) ls.length with
  | false => rw [hb] at h2; exact h2.elim
  | true =>
    rw [hb, cond_true] at h2
    simp only [pKillK_eq, pHs_eq] at h2
    have hi2 : i + 2 ≤ (mt id).2.2.1 := hl.1 ▸ Nat.le_of_ble_eq_true hb
    obtain ⟨lv, g1, g2⟩ := hl.set2
    obtain ⟨cr, rfl, hst2⟩ := sJ hst
    refine lv_lstore_n hC.1 hC.2.1 hd hi g1 (by omega) rfl (fun cls' hl' => ?_)
    exact h2 p e R s m args below meth c H locs cells slots mc ms Z A as0 bs ws cls' _ hC hX hw hP hD hS (g2 i (.long x) _ cls' (by omega) rfl hl') hst2 hB hF
theorem ok_lstore {mt : Nat → pM} {law : Nat} {M : pM} {il : Bool} {sc : List Int32} {pc : Nat} {i : Nat} (hd : decode M.2.1 pc = .ok (.lstore i, 2)) : pOk mt law M il sc pc (oStoreL i (pc + 2)) := by
  intro l D cI cO adK adV b B id ls st h Q hM hL hop p e R s m args below meth c H locs cells slots mc ms Z A as0 bs ws cls cst hC hX hw hP hD hS hl hst hB hF
  subst hM
  obtain ⟨v, r, rfl, h1⟩ := pPop_inv hop
  obtain ⟨x, rfl, h2⟩ := pJ_inv h1
  cases hb : Nat.ble (i + 2) ls.length with
  | false => rw [hb] at h2; exact h2.elim
  | true =>
    rw [hb, cond_true] at h2
    simp only [pKillK_eq, pHs_eq] at h2
    have hi2 : i + 2 ≤ (mt id).2.2.1 := hl.1 ▸ Nat.le_of_ble_eq_true hb
    obtain ⟨lv, g1, g2⟩ := hl.set2
    obtain ⟨cr, rfl, hst2⟩ := sJ hst
    refine lv_lstore hC.1 hC.2.1 hd g1 (by omega) rfl (fun cls' hl' => ?_)
    exact h2 p e R s m args below meth c H locs cells slots mc ms Z A as0 bs ws cls' _ hC hX hw hP hD hS (g2 i (.long x) _ cls' (by omega) rfl hl') hst2 hB hF
theorem ok_iinc {mt : Nat → pM} {law : Nat} {M : pM} {il : Bool} {sc : List Int32} {pc : Nat} {i : Nat} {k : Int} {v : Int32} (hd : decode M.2.1 pc = .ok (.iinc i k, 3)) (hv : Int32.ofInt k = v) : pOk mt law M il sc pc (oInc i v (pc + 3)) := by
  intro l D cI cO adK adV b B id ls st h Q hM hL hop p e R s m args below meth c H locs cells slots mc ms Z A as0 bs ws cls cst hC hX hw hP hD hS hl hst hB hF
  subst hM
  obtain ⟨o, h1, h2⟩ := pSome_inv hop
  obtain ⟨w, rfl, h3⟩ := pSome_inv h2
  obtain ⟨x, rfl, h4⟩ := pI_inv h3
  simp only [pKillK_eq, pHs_eq] at h4
  have hi2 : i < (mt id).2.2.1 := hl.1 ▸ pg_lt h1
  obtain ⟨lv2, g3, g4⟩ := hl.set
  obtain ⟨w, q1, q2⟩ := hl.at h1
  cases q1
  have g5 : lv_has cls (mt id).2.2.1 ((i, .int x) :: lv2) := ⟨g3.1, g3.2.1, fun q hq => by rcases List.mem_cons.mp hq with rfl | hq; exact q2; exact g3.2.2 q hq⟩
  refine lv_iinc (k := 0) hC.1 hC.2.1 hd g5 rfl (by rw [hv]) hi2 rfl (fun cls' hl' => ?_)
  have hl2 : lv_has cls' (mt id).2.2.1 ((i, .int (x + v)) :: lv2.filter (fun q => !(q.1 == i) && !(q.1 + 1 == i && q.2.category == 2))) := by
    have e : List.filter (fun q : Nat × Value => !(q.1 == i) && !(q.1 + 1 == i && q.2.category == 2)) ((i, .int x) :: lv2) = lv2.filter (fun q => !(q.1 == i) && !(q.1 + 1 == i && q.2.category == 2)) := by
      rw [List.filter_cons_of_neg]
      simp
    rw [e] at hl'
    exact hl'
  exact h4 p e R s m args below meth c H locs cells slots mc ms Z A as0 bs ws cls' _ hC hX hw hP hD hS (g4 i (.int (x + v)) _ cls' hi2 rfl hl2) hst hB hF
theorem ok_iadd {mt : Nat → pM} {law : Nat} {M : pM} {il : Bool} {sc : List Int32} {pc : Nat} (hd : decode M.2.1 pc = .ok (.iadd, 1)) : pOk mt law M il sc pc (oAdd (pc + 1)) := by
  intro l D cI cO adK adV b B id ls st h Q hM hL hop p e R s m args below meth c H locs cells slots mc ms Z A as0 bs ws cls cst hC hX hw hP hD hS hl hst hB hF
  subst hM
  obtain ⟨x, y, r, rfl, h1⟩ := p2_inv hop
  obtain ⟨c1, rfl, hst1⟩ := sI hst
  obtain ⟨c2, rfl, hst2⟩ := sI hst1
  replace hst := hst2
  refine lv_iadd hC.1 hC.2.1 hd ?_
  exact h1 p e R s m args below meth c H locs cells slots mc ms Z A as0 bs ws cls _ hC hX hw hP hD hS hl (sC rfl hst) hB hF
theorem ok_isub {mt : Nat → pM} {law : Nat} {M : pM} {il : Bool} {sc : List Int32} {pc : Nat} (hd : decode M.2.1 pc = .ok (.isub, 1)) : pOk mt law M il sc pc (oSub (pc + 1)) := by
  intro l D cI cO adK adV b B id ls st h Q hM hL hop p e R s m args below meth c H locs cells slots mc ms Z A as0 bs ws cls cst hC hX hw hP hD hS hl hst hB hF
  subst hM
  obtain ⟨x, y, r, rfl, h1⟩ := p2_inv hop
  obtain ⟨c1, rfl, hst1⟩ := sI hst
  obtain ⟨c2, rfl, hst2⟩ := sI hst1
  replace hst := hst2
  refine lv_isub hC.1 hC.2.1 hd ?_
  exact h1 p e R s m args below meth c H locs cells slots mc ms Z A as0 bs ws cls _ hC hX hw hP hD hS hl (sC rfl hst) hB hF
theorem ok_imul {mt : Nat → pM} {law : Nat} {M : pM} {il : Bool} {sc : List Int32} {pc : Nat} (hd : decode M.2.1 pc = .ok (.imul, 1)) : pOk mt law M il sc pc (oMul (pc + 1)) := by
  intro l D cI cO adK adV b B id ls st h Q hM hL hop p e R s m args below meth c H locs cells slots mc ms Z A as0 bs ws cls cst hC hX hw hP hD hS hl hst hB hF
  subst hM
  obtain ⟨x, y, r, rfl, h1⟩ := p2_inv hop
  obtain ⟨c1, rfl, hst1⟩ := sI hst
  obtain ⟨c2, rfl, hst2⟩ := sI hst1
  replace hst := hst2
  refine lv_imul hC.1 hC.2.1 hd ?_
  exact h1 p e R s m args below meth c H locs cells slots mc ms Z A as0 bs ws cls _ hC hX hw hP hD hS hl (sC rfl hst) hB hF
theorem ok_iand {mt : Nat → pM} {law : Nat} {M : pM} {il : Bool} {sc : List Int32} {pc : Nat} (hd : decode M.2.1 pc = .ok (.iand, 1)) : pOk mt law M il sc pc (oAnd (pc + 1)) := by
  intro l D cI cO adK adV b B id ls st h Q hM hL hop p e R s m args below meth c H locs cells slots mc ms Z A as0 bs ws cls cst hC hX hw hP hD hS hl hst hB hF
  subst hM
  obtain ⟨x, y, r, rfl, h1⟩ := p2_inv hop
  obtain ⟨c1, rfl, hst1⟩ := sI hst
  obtain ⟨c2, rfl, hst2⟩ := sI hst1
  replace hst := hst2
  refine lv_iand hC.1 hC.2.1 hd ?_
  exact h1 p e R s m args below meth c H locs cells slots mc ms Z A as0 bs ws cls _ hC hX hw hP hD hS hl (sC rfl hst) hB hF
theorem ok_ior {mt : Nat → pM} {law : Nat} {M : pM} {il : Bool} {sc : List Int32} {pc : Nat} (hd : decode M.2.1 pc = .ok (.ior, 1)) : pOk mt law M il sc pc (oOr (pc + 1)) := by
  intro l D cI cO adK adV b B id ls st h Q hM hL hop p e R s m args below meth c H locs cells slots mc ms Z A as0 bs ws cls cst hC hX hw hP hD hS hl hst hB hF
  subst hM
  obtain ⟨x, y, r, rfl, h1⟩ := p2_inv hop
  obtain ⟨c1, rfl, hst1⟩ := sI hst
  obtain ⟨c2, rfl, hst2⟩ := sI hst1
  replace hst := hst2
  refine lv_ior hC.1 hC.2.1 hd ?_
  exact h1 p e R s m args below meth c H locs cells slots mc ms Z A as0 bs ws cls _ hC hX hw hP hD hS hl (sC rfl hst) hB hF
theorem ok_ishl {mt : Nat → pM} {law : Nat} {M : pM} {il : Bool} {sc : List Int32} {pc : Nat} (hd : decode M.2.1 pc = .ok (.ishl, 1)) : pOk mt law M il sc pc (oShl (pc + 1)) := by
  intro l D cI cO adK adV b B id ls st h Q hM hL hop p e R s m args below meth c H locs cells slots mc ms Z A as0 bs ws cls cst hC hX hw hP hD hS hl hst hB hF
  subst hM
  obtain ⟨x, y, r, rfl, h1⟩ := p2_inv hop
  obtain ⟨c1, rfl, hst1⟩ := sI hst
  obtain ⟨c2, rfl, hst2⟩ := sI hst1
  replace hst := hst2
  refine lv_ishl hC.1 hC.2.1 hd ?_
  exact h1 p e R s m args below meth c H locs cells slots mc ms Z A as0 bs ws cls _ hC hX hw hP hD hS hl (sC rfl hst) hB hF
theorem ok_ishr {mt : Nat → pM} {law : Nat} {M : pM} {il : Bool} {sc : List Int32} {pc : Nat} (hd : decode M.2.1 pc = .ok (.ishr, 1)) : pOk mt law M il sc pc (oShr (pc + 1)) := by
  intro l D cI cO adK adV b B id ls st h Q hM hL hop p e R s m args below meth c H locs cells slots mc ms Z A as0 bs ws cls cst hC hX hw hP hD hS hl hst hB hF
  subst hM
  obtain ⟨x, y, r, rfl, h1⟩ := p2_inv hop
  obtain ⟨c1, rfl, hst1⟩ := sI hst
  obtain ⟨c2, rfl, hst2⟩ := sI hst1
  replace hst := hst2
  refine lv_ishr hC.1 hC.2.1 hd ?_
  exact h1 p e R s m args below meth c H locs cells slots mc ms Z A as0 bs ws cls _ hC hX hw hP hD hS hl (sC rfl hst) hB hF
theorem ok_idiv {mt : Nat → pM} {law : Nat} {M : pM} {il : Bool} {sc : List Int32} {pc : Nat} (hd : decode M.2.1 pc = .ok (.idiv, 1)) : pOk mt law M il sc pc (oDiv (pc + 1)) := by
  intro l D cI cO adK adV b B id ls st h Q hM hL hop p e R s m args below meth c H locs cells slots mc ms Z A as0 bs ws cls cst hC hX hw hP hD hS hl hst hB hF
  subst hM
  obtain ⟨x, y, r, rfl, hy, h1⟩ := p2_inv hop
  obtain ⟨c1, rfl, hst1⟩ := sI hst
  obtain ⟨c2, rfl, hst2⟩ := sI hst1
  replace hst := hst2
  refine lv_idiv hC.1 hC.2.1 hd hy ?_
  exact h1 p e R s m args below meth c H locs cells slots mc ms Z A as0 bs ws cls _ hC hX hw hP hD hS hl (sC rfl hst) hB hF
theorem ok_irem {mt : Nat → pM} {law : Nat} {M : pM} {il : Bool} {sc : List Int32} {pc : Nat} (hd : decode M.2.1 pc = .ok (.irem, 1)) : pOk mt law M il sc pc (oRem (pc + 1)) := by
  intro l D cI cO adK adV b B id ls st h Q hM hL hop p e R s m args below meth c H locs cells slots mc ms Z A as0 bs ws cls cst hC hX hw hP hD hS hl hst hB hF
  subst hM
  obtain ⟨x, y, r, rfl, hy, h1⟩ := p2_inv hop
  obtain ⟨c1, rfl, hst1⟩ := sI hst
  obtain ⟨c2, rfl, hst2⟩ := sI hst1
  replace hst := hst2
  refine lv_irem hC.1 hC.2.1 hd hy ?_
  exact h1 p e R s m args below meth c H locs cells slots mc ms Z A as0 bs ws cls _ hC hX hw hP hD hS hl (sC rfl hst) hB hF
theorem ok_ladd {mt : Nat → pM} {law : Nat} {M : pM} {il : Bool} {sc : List Int32} {pc : Nat} (hd : decode M.2.1 pc = .ok (.ladd, 1)) : pOk mt law M il sc pc (oAddL (pc + 1)) := by
  intro l D cI cO adK adV b B id ls st h Q hM hL hop p e R s m args below meth c H locs cells slots mc ms Z A as0 bs ws cls cst hC hX hw hP hD hS hl hst hB hF
  subst hM
  obtain ⟨x, y, r, rfl, h1⟩ := p2L_inv hop
  obtain ⟨c1, rfl, hst1⟩ := sJ hst
  obtain ⟨c2, rfl, hst2⟩ := sJ hst1
  replace hst := hst2
  refine lv_ladd hC.1 hC.2.1 hd ?_
  exact h1 p e R s m args below meth c H locs cells slots mc ms Z A as0 bs ws cls _ hC hX hw hP hD hS hl (sC rfl hst) hB hF
theorem ok_lmul {mt : Nat → pM} {law : Nat} {M : pM} {il : Bool} {sc : List Int32} {pc : Nat} (hd : decode M.2.1 pc = .ok (.lmul, 1)) : pOk mt law M il sc pc (oMulL (pc + 1)) := by
  intro l D cI cO adK adV b B id ls st h Q hM hL hop p e R s m args below meth c H locs cells slots mc ms Z A as0 bs ws cls cst hC hX hw hP hD hS hl hst hB hF
  subst hM
  obtain ⟨x, y, r, rfl, h1⟩ := p2L_inv hop
  obtain ⟨c1, rfl, hst1⟩ := sJ hst
  obtain ⟨c2, rfl, hst2⟩ := sJ hst1
  replace hst := hst2
  refine lv_lmul hC.1 hC.2.1 hd ?_
  exact h1 p e R s m args below meth c H locs cells slots mc ms Z A as0 bs ws cls _ hC hX hw hP hD hS hl (sC rfl hst) hB hF
theorem ok_lcmp {mt : Nat → pM} {law : Nat} {M : pM} {il : Bool} {sc : List Int32} {pc : Nat} (hd : decode M.2.1 pc = .ok (.lcmp, 1)) : pOk mt law M il sc pc (oCmpL (pc + 1)) := by
  intro l D cI cO adK adV b B id ls st h Q hM hL hop p e R s m args below meth c H locs cells slots mc ms Z A as0 bs ws cls cst hC hX hw hP hD hS hl hst hB hF
  subst hM
  obtain ⟨x, y, r, rfl, h1⟩ := p2L_inv hop
  obtain ⟨c1, rfl, hst1⟩ := sJ hst
  obtain ⟨c2, rfl, hst2⟩ := sJ hst1
  replace hst := hst2
  refine W.lcmp hC.1 hC.2.1 hd ?_
  exact h1 p e R s m args below meth c H locs cells slots mc ms Z A as0 bs ws cls _ hC hX hw hP hD hS hl (sC rfl hst) hB hF
theorem ok_i2l {mt : Nat → pM} {law : Nat} {M : pM} {il : Bool} {sc : List Int32} {pc : Nat} (hd : decode M.2.1 pc = .ok (.i2l, 1)) : pOk mt law M il sc pc (oI2l (pc + 1)) := by
  intro l D cI cO adK adV b B id ls st h Q hM hL hop p e R s m args below meth c H locs cells slots mc ms Z A as0 bs ws cls cst hC hX hw hP hD hS hl hst hB hF
  subst hM
  obtain ⟨v, r, rfl, h1⟩ := pPop_inv hop
  obtain ⟨x, rfl, h2⟩ := pI_inv h1
  obtain ⟨c1, rfl, hst1⟩ := sI hst
  replace hst := hst1
  refine lv_i2l hC.1 hC.2.1 hd rfl ?_
  exact h2 p e R s m args below meth c H locs cells slots mc ms Z A as0 bs ws cls _ hC hX hw hP hD hS hl (sC rfl hst) hB hF
theorem ok_ldc2 {mt : Nat → pM} {law : Nat} {M : pM} {il : Bool} {sc : List Int32} {pc : Nat} {i : Nat} {v : Int64} (hd : decode M.2.1 pc = .ok (.ldc2_w i, 3)) (hw0 : Cond.constantLong M.1.cls i v ∈ lw_good) : pOk mt law M il sc pc (oPush (.long v) (pc + 3)) := by
  intro l D cI cO adK adV b B id ls st h Q hM hL hop p e R s m args below meth c H locs cells slots mc ms Z A as0 bs ws cls cst hC hX hw hP hD hS hl hst hB hF
  subst hM
  refine lv_ldc2 hC.1 hC.2.1 hC.2.2.2.1 (hC.2.2.2.2.1 _ hw0) hd ?_
  exact hop p e R s m args below meth c H locs cells slots mc ms Z A as0 bs ws cls _ hC hX hw hP hD hS hl (sC rfl hst) hB hF
theorem ok_dup {mt : Nat → pM} {law : Nat} {M : pM} {il : Bool} {sc : List Int32} {pc : Nat} (hd : decode M.2.1 pc = .ok (.dup, 1)) : pOk mt law M il sc pc (oDup (pc + 1)) := by
  intro l D cI cO adK adV b B id ls st h Q hM hL hop p e R s m args below meth c H locs cells slots mc ms Z A as0 bs ws cls cst hC hX hw hP hD hS hl hst hB hF
  subst hM
  obtain ⟨v, r, rfl, h1⟩ := pPop_inv hop
  obtain ⟨w, c1, rfl, hv, hst2⟩ := sV hst
  cases hb : Nat.beq v.category 1 with
  | false => rw [hb] at h1; exact h1.elim
  | true =>
    rw [hb, cond_true] at h1
    refine lv_dup hC.1 hC.2.1 hd ((tv_cat hv).trans (Nat.eq_of_beq_eq_true hb)) ?_
    exact h1 p e R s m args below meth c H locs cells slots mc ms Z A as0 bs ws cls _ hC hX hw hP hD hS hl (sC hv (sC hv hst2)) hB hF
theorem ok_dup2 {mt : Nat → pM} {law : Nat} {M : pM} {il : Bool} {sc : List Int32} {pc : Nat} (hd : decode M.2.1 pc = .ok (.dup2, 1)) : pOk mt law M il sc pc (oDup2 (pc + 1)) := by
  intro l D cI cO adK adV b B id ls st h Q hM hL hop p e R s m args below meth c H locs cells slots mc ms Z A as0 bs ws cls cst hC hX hw hP hD hS hl hst hB hF
  subst hM
  obtain ⟨v, r, rfl, h1⟩ := pPop_inv hop
  obtain ⟨v2, r, rfl, h2⟩ := pPop_inv h1
  obtain ⟨w, c1, rfl, hv, hst2⟩ := sV hst
  obtain ⟨w2, c2, rfl, hv2, hst3⟩ := sV hst2
  cases hb : (Nat.beq v.category 1 && Nat.beq v2.category 1) with
  | false => rw [hb] at h2; exact h2.elim
  | true =>
    rw [hb, cond_true] at h2
    rw [Bool.and_eq_true] at hb
    refine lv_dup2_11 hC.1 hC.2.1 hd ((tv_cat hv).trans (Nat.eq_of_beq_eq_true hb.1)) ((tv_cat hv2).trans (Nat.eq_of_beq_eq_true hb.2)) ?_
    exact h2 p e R s m args below meth c H locs cells slots mc ms Z A as0 bs ws cls _ hC hX hw hP hD hS hl (sC hv (sC hv2 (sC hv (sC hv2 hst3)))) hB hF
theorem ok_goto {mt : Nat → pM} {law : Nat} {M : pM} {il : Bool} {sc : List Int32} {pc : Nat} {off : Int} {t : Nat} (hd : decode M.2.1 pc = .ok (.goto off, 3)) (ht : (pc : Int) + off = (t : Int)) : pOk mt law M il sc pc (oGoto t) := by
  intro l D cI cO adK adV b B id ls st h Q hM hL hop p e R s m args below meth c H locs cells slots mc ms Z A as0 bs ws cls cst hC hX hw hP hD hS hl hst hB hF
  subst hM
  refine lv_goto hC.1 hC.2.1 hd ht ?_
  exact hop p e R s m args below meth c H locs cells slots mc ms Z A as0 bs ws cls _ hC hX hw hP hD hS hl hst hB hF
theorem ok_icmp_lt {mt : Nat → pM} {law : Nat} {M : pM} {il : Bool} {sc : List Int32} {pc : Nat} {off : Int} {t : Nat} (hd : decode M.2.1 pc = .ok (.if_icmp .lt off, 3)) (ht : (pc : Int) + off = (t : Int)) : pOk mt law M il sc pc (oIfLt t (pc + 3)) := by
  intro l D cI cO adK adV b B id ls st h Q hM hL hop p e R s m args below meth c H locs cells slots mc ms Z A as0 bs ws cls cst hC hX hw hP hD hS hl hst hB hF
  subst hM
  obtain ⟨x, y, r, rfl, h1, h2⟩ := p2_inv hop
  obtain ⟨c1, rfl, hst1⟩ := sI hst
  obtain ⟨c2, rfl, hst2⟩ := sI hst1
  replace hst := hst2
  refine lv_icmp_lt hC.1 hC.2.1 hd ht (fun z => ?_) (fun z => ?_)
  · exact (h1 z) p e R s m args below meth c H locs cells slots mc ms Z A as0 bs ws cls _ hC hX hw hP hD hS hl hst hB hF
  · exact (h2 z) p e R s m args below meth c H locs cells slots mc ms Z A as0 bs ws cls _ hC hX hw hP hD hS hl hst hB hF
theorem ok_if_lt {mt : Nat → pM} {law : Nat} {M : pM} {il : Bool} {sc : List Int32} {pc : Nat} {off : Int} {t : Nat} (hd : decode M.2.1 pc = .ok (.ifCond .lt off, 3)) (ht : (pc : Int) + off = (t : Int)) : pOk mt law M il sc pc (oIfLt0 t (pc + 3)) := by
  intro l D cI cO adK adV b B id ls st h Q hM hL hop p e R s m args below meth c H locs cells slots mc ms Z A as0 bs ws cls cst hC hX hw hP hD hS hl hst hB hF
  subst hM
  obtain ⟨v, r, rfl, h0⟩ := pPop_inv hop
  obtain ⟨x, rfl, h1, h2⟩ := pI_inv h0
  obtain ⟨c1, rfl, hst1⟩ := sI hst
  replace hst := hst1
  refine lv_if_lt hC.1 hC.2.1 hd ht (fun z => ?_) (fun z => ?_)
  · exact (h1 z) p e R s m args below meth c H locs cells slots mc ms Z A as0 bs ws cls _ hC hX hw hP hD hS hl hst hB hF
  · exact (h2 z) p e R s m args below meth c H locs cells slots mc ms Z A as0 bs ws cls _ hC hX hw hP hD hS hl hst hB hF
theorem ok_icmp_ge {mt : Nat → pM} {law : Nat} {M : pM} {il : Bool} {sc : List Int32} {pc : Nat} {off : Int} {t : Nat} (hd : decode M.2.1 pc = .ok (.if_icmp .ge off, 3)) (ht : (pc : Int) + off = (t : Int)) : pOk mt law M il sc pc (oIfGe t (pc + 3)) := by
  intro l D cI cO adK adV b B id ls st h Q hM hL hop p e R s m args below meth c H locs cells slots mc ms Z A as0 bs ws cls cst hC hX hw hP hD hS hl hst hB hF
  subst hM
  obtain ⟨x, y, r, rfl, h1, h2⟩ := p2_inv hop
  obtain ⟨c1, rfl, hst1⟩ := sI hst
  obtain ⟨c2, rfl, hst2⟩ := sI hst1
  replace hst := hst2
  refine lv_icmp_ge hC.1 hC.2.1 hd ht (fun z => ?_) (fun z => ?_)
  · exact (h1 z) p e R s m args below meth c H locs cells slots mc ms Z A as0 bs ws cls _ hC hX hw hP hD hS hl hst hB hF
  · exact (h2 z) p e R s m args below meth c H locs cells slots mc ms Z A as0 bs ws cls _ hC hX hw hP hD hS hl hst hB hF
theorem ok_if_ge {mt : Nat → pM} {law : Nat} {M : pM} {il : Bool} {sc : List Int32} {pc : Nat} {off : Int} {t : Nat} (hd : decode M.2.1 pc = .ok (.ifCond .ge off, 3)) (ht : (pc : Int) + off = (t : Int)) : pOk mt law M il sc pc (oIfGe0 t (pc + 3)) := by
  intro l D cI cO adK adV b B id ls st h Q hM hL hop p e R s m args below meth c H locs cells slots mc ms Z A as0 bs ws cls cst hC hX hw hP hD hS hl hst hB hF
  subst hM
  obtain ⟨v, r, rfl, h0⟩ := pPop_inv hop
  obtain ⟨x, rfl, h1, h2⟩ := pI_inv h0
  obtain ⟨c1, rfl, hst1⟩ := sI hst
  replace hst := hst1
  refine lv_if_ge hC.1 hC.2.1 hd ht (fun z => ?_) (fun z => ?_)
  · exact (h1 z) p e R s m args below meth c H locs cells slots mc ms Z A as0 bs ws cls _ hC hX hw hP hD hS hl hst hB hF
  · exact (h2 z) p e R s m args below meth c H locs cells slots mc ms Z A as0 bs ws cls _ hC hX hw hP hD hS hl hst hB hF
theorem ok_icmp_gt {mt : Nat → pM} {law : Nat} {M : pM} {il : Bool} {sc : List Int32} {pc : Nat} {off : Int} {t : Nat} (hd : decode M.2.1 pc = .ok (.if_icmp .gt off, 3)) (ht : (pc : Int) + off = (t : Int)) : pOk mt law M il sc pc (oIfGt t (pc + 3)) := by
  intro l D cI cO adK adV b B id ls st h Q hM hL hop p e R s m args below meth c H locs cells slots mc ms Z A as0 bs ws cls cst hC hX hw hP hD hS hl hst hB hF
  subst hM
  obtain ⟨x, y, r, rfl, h1, h2⟩ := p2_inv hop
  obtain ⟨c1, rfl, hst1⟩ := sI hst
  obtain ⟨c2, rfl, hst2⟩ := sI hst1
  replace hst := hst2
  refine lv_icmp_gt hC.1 hC.2.1 hd ht (fun z => ?_) (fun z => ?_)
  · exact (h1 z) p e R s m args below meth c H locs cells slots mc ms Z A as0 bs ws cls _ hC hX hw hP hD hS hl hst hB hF
  · exact (h2 z) p e R s m args below meth c H locs cells slots mc ms Z A as0 bs ws cls _ hC hX hw hP hD hS hl hst hB hF
theorem ok_if_gt {mt : Nat → pM} {law : Nat} {M : pM} {il : Bool} {sc : List Int32} {pc : Nat} {off : Int} {t : Nat} (hd : decode M.2.1 pc = .ok (.ifCond .gt off, 3)) (ht : (pc : Int) + off = (t : Int)) : pOk mt law M il sc pc (oIfGt0 t (pc + 3)) := by
  intro l D cI cO adK adV b B id ls st h Q hM hL hop p e R s m args below meth c H locs cells slots mc ms Z A as0 bs ws cls cst hC hX hw hP hD hS hl hst hB hF
  subst hM
  obtain ⟨v, r, rfl, h0⟩ := pPop_inv hop
  obtain ⟨x, rfl, h1, h2⟩ := pI_inv h0
  obtain ⟨c1, rfl, hst1⟩ := sI hst
  replace hst := hst1
  refine lv_if_gt hC.1 hC.2.1 hd ht (fun z => ?_) (fun z => ?_)
  · exact (h1 z) p e R s m args below meth c H locs cells slots mc ms Z A as0 bs ws cls _ hC hX hw hP hD hS hl hst hB hF
  · exact (h2 z) p e R s m args below meth c H locs cells slots mc ms Z A as0 bs ws cls _ hC hX hw hP hD hS hl hst hB hF
theorem ok_icmp_le {mt : Nat → pM} {law : Nat} {M : pM} {il : Bool} {sc : List Int32} {pc : Nat} {off : Int} {t : Nat} (hd : decode M.2.1 pc = .ok (.if_icmp .le off, 3)) (ht : (pc : Int) + off = (t : Int)) : pOk mt law M il sc pc (oIfLe t (pc + 3)) := by
  intro l D cI cO adK adV b B id ls st h Q hM hL hop p e R s m args below meth c H locs cells slots mc ms Z A as0 bs ws cls cst hC hX hw hP hD hS hl hst hB hF
  subst hM
  obtain ⟨x, y, r, rfl, h1, h2⟩ := p2_inv hop
  obtain ⟨c1, rfl, hst1⟩ := sI hst
  obtain ⟨c2, rfl, hst2⟩ := sI hst1
  replace hst := hst2
  refine lv_icmp_le hC.1 hC.2.1 hd ht (fun z => ?_) (fun z => ?_)
  · exact (h1 z) p e R s m args below meth c H locs cells slots mc ms Z A as0 bs ws cls _ hC hX hw hP hD hS hl hst hB hF
  · exact (h2 z) p e R s m args below meth c H locs cells slots mc ms Z A as0 bs ws cls _ hC hX hw hP hD hS hl hst hB hF
theorem ok_if_le {mt : Nat → pM} {law : Nat} {M : pM} {il : Bool} {sc : List Int32} {pc : Nat} {off : Int} {t : Nat} (hd : decode M.2.1 pc = .ok (.ifCond .le off, 3)) (ht : (pc : Int) + off = (t : Int)) : pOk mt law M il sc pc (oIfLe0 t (pc + 3)) := by
  intro l D cI cO adK adV b B id ls st h Q hM hL hop p e R s m args below meth c H locs cells slots mc ms Z A as0 bs ws cls cst hC hX hw hP hD hS hl hst hB hF
  subst hM
  obtain ⟨v, r, rfl, h0⟩ := pPop_inv hop
  obtain ⟨x, rfl, h1, h2⟩ := pI_inv h0
  obtain ⟨c1, rfl, hst1⟩ := sI hst
  replace hst := hst1
  refine lv_if_le hC.1 hC.2.1 hd ht (fun z => ?_) (fun z => ?_)
  · exact (h1 z) p e R s m args below meth c H locs cells slots mc ms Z A as0 bs ws cls _ hC hX hw hP hD hS hl hst hB hF
  · exact (h2 z) p e R s m args below meth c H locs cells slots mc ms Z A as0 bs ws cls _ hC hX hw hP hD hS hl hst hB hF
theorem ok_icmp_eq {mt : Nat → pM} {law : Nat} {M : pM} {il : Bool} {sc : List Int32} {pc : Nat} {off : Int} {t : Nat} (hd : decode M.2.1 pc = .ok (.if_icmp .eq off, 3)) (ht : (pc : Int) + off = (t : Int)) : pOk mt law M il sc pc (oIfEq t (pc + 3)) := by
  intro l D cI cO adK adV b B id ls st h Q hM hL hop p e R s m args below meth c H locs cells slots mc ms Z A as0 bs ws cls cst hC hX hw hP hD hS hl hst hB hF
  subst hM
  obtain ⟨x, y, r, rfl, h1, h2⟩ := p2_inv hop
  obtain ⟨c1, rfl, hst1⟩ := sI hst
  obtain ⟨c2, rfl, hst2⟩ := sI hst1
  replace hst := hst2
  refine lv_icmp_eq hC.1 hC.2.1 hd ht (fun z => ?_) (fun z => ?_)
  · exact (h1 z) p e R s m args below meth c H locs cells slots mc ms Z A as0 bs ws cls _ hC hX hw hP hD hS hl hst hB hF
  · exact (h2 z) p e R s m args below meth c H locs cells slots mc ms Z A as0 bs ws cls _ hC hX hw hP hD hS hl hst hB hF
theorem ok_if_eq {mt : Nat → pM} {law : Nat} {M : pM} {il : Bool} {sc : List Int32} {pc : Nat} {off : Int} {t : Nat} (hd : decode M.2.1 pc = .ok (.ifCond .eq off, 3)) (ht : (pc : Int) + off = (t : Int)) : pOk mt law M il sc pc (oIfEq0 t (pc + 3)) := by
  intro l D cI cO adK adV b B id ls st h Q hM hL hop p e R s m args below meth c H locs cells slots mc ms Z A as0 bs ws cls cst hC hX hw hP hD hS hl hst hB hF
  subst hM
  obtain ⟨v, r, rfl, h0⟩ := pPop_inv hop
  obtain ⟨x, rfl, h1, h2⟩ := pI_inv h0
  obtain ⟨c1, rfl, hst1⟩ := sI hst
  replace hst := hst1
  refine lv_if_eq hC.1 hC.2.1 hd ht (fun z => ?_) (fun z => ?_)
  · exact (h1 z) p e R s m args below meth c H locs cells slots mc ms Z A as0 bs ws cls _ hC hX hw hP hD hS hl hst hB hF
  · exact (h2 z) p e R s m args below meth c H locs cells slots mc ms Z A as0 bs ws cls _ hC hX hw hP hD hS hl hst hB hF
theorem ok_icmp_ne {mt : Nat → pM} {law : Nat} {M : pM} {il : Bool} {sc : List Int32} {pc : Nat} {off : Int} {t : Nat} (hd : decode M.2.1 pc = .ok (.if_icmp .ne off, 3)) (ht : (pc : Int) + off = (t : Int)) : pOk mt law M il sc pc (oIfEq (pc + 3) t) := by
  intro l D cI cO adK adV b B id ls st h Q hM hL hop p e R s m args below meth c H locs cells slots mc ms Z A as0 bs ws cls cst hC hX hw hP hD hS hl hst hB hF
  subst hM
  obtain ⟨x, y, r, rfl, h1, h2⟩ := p2_inv hop
  obtain ⟨c1, rfl, hst1⟩ := sI hst
  obtain ⟨c2, rfl, hst2⟩ := sI hst1
  replace hst := hst2
  refine lv_icmp_ne hC.1 hC.2.1 hd ht (fun z => ?_) (fun z => ?_)
  · exact (h2 z) p e R s m args below meth c H locs cells slots mc ms Z A as0 bs ws cls _ hC hX hw hP hD hS hl hst hB hF
  · exact (h1 z) p e R s m args below meth c H locs cells slots mc ms Z A as0 bs ws cls _ hC hX hw hP hD hS hl hst hB hF
theorem ok_if_ne {mt : Nat → pM} {law : Nat} {M : pM} {il : Bool} {sc : List Int32} {pc : Nat} {off : Int} {t : Nat} (hd : decode M.2.1 pc = .ok (.ifCond .ne off, 3)) (ht : (pc : Int) + off = (t : Int)) : pOk mt law M il sc pc (oIfEq0 (pc + 3) t) := by
  intro l D cI cO adK adV b B id ls st h Q hM hL hop p e R s m args below meth c H locs cells slots mc ms Z A as0 bs ws cls cst hC hX hw hP hD hS hl hst hB hF
  subst hM
  obtain ⟨v, r, rfl, h0⟩ := pPop_inv hop
  obtain ⟨x, rfl, h1, h2⟩ := pI_inv h0
  obtain ⟨c1, rfl, hst1⟩ := sI hst
  replace hst := hst1
  refine lv_if_ne hC.1 hC.2.1 hd ht (fun z => ?_) (fun z => ?_)
  · exact (h2 z) p e R s m args below meth c H locs cells slots mc ms Z A as0 bs ws cls _ hC hX hw hP hD hS hl hst hB hF
  · exact (h1 z) p e R s m args below meth c H locs cells slots mc ms Z A as0 bs ws cls _ hC hX hw hP hD hS hl hst hB hF
theorem ok_ifnonnull {mt : Nat → pM} {law : Nat} {M : pM} {il : Bool} {sc : List Int32} {pc : Nat} {off : Int} {t : Nat} (hd : decode M.2.1 pc = .ok (.ifnonnull off, 3)) (ht : (pc : Int) + off = (t : Int)) : pOk mt law M il sc pc (oNonNull t) := by
  intro l D cI cO adK adV b B id ls st h Q hM hL hop p e R s m args below meth c H locs cells slots mc ms Z A as0 bs ws cls cst hC hX hw hP hD hS hl hst hB hF
  subst hM
  obtain ⟨v, r, rfl, h0⟩ := pPop_inv hop
  obtain ⟨x, rfl, h1⟩ := pR_inv h0
  obtain ⟨a, c1, ha, rfl, hst1⟩ := sR hst
  replace hst := hst1
  refine lv_ifnonnull hC.1 hC.2.1 hd ht ?_
  exact h1 p e R s m args below meth c H locs cells slots mc ms Z A as0 bs ws cls _ hC hX hw hP hD hS hl hst hB hF
theorem ok_return {mt : Nat → pM} {law : Nat} {M : pM} {il : Bool} {sc : List Int32} {pc : Nat} (hd : decode M.2.1 pc = .ok (.return_, 1)) (hr : M.2.2.2 = none) : pOk mt law M il sc pc oRetV := by
  intro l D cI cO adK adV b B id ls st h Q hM hL hop p e R s m args below meth c H locs cells slots mc ms Z A as0 bs ws cls cst hC hX hw hP hD hS hl hst hB hF
  subst hM
  cases st with
  | cons v r => exact hop.elim
  | nil =>
  have h1 : Q none h := hop
  cases cst with
  | cons v r => simp at hst
  | nil =>
  exact hF _ h bs ws H locs cells slots cls pc h1 (Or.inl ⟨hd, hr, rfl⟩) hw hP hD hS (by omega) (by omega)
theorem ok_ireturn {mt : Nat → pM} {law : Nat} {M : pM} {il : Bool} {sc : List Int32} {pc : Nat} (hd : decode M.2.1 pc = .ok (.ireturn, 1)) (hr : M.2.2.2 = some .int) : pOk mt law M il sc pc oRetI := by
  intro l D cI cO adK adV b B id ls st h Q hM hL hop p e R s m args below meth c H locs cells slots mc ms Z A as0 bs ws cls cst hC hX hw hP hD hS hl hst hB hF
  subst hM
  cases st with
  | nil => exact hop.elim
  | cons v r =>
  cases r with
  | cons v2 r2 => exact hop.elim
  | nil =>
  obtain ⟨x, rfl, h1⟩ := pI_inv (show pI v _ from hop)
  obtain ⟨c1, rfl, hst1⟩ := sI hst
  replace hst := hst1
  cases c1 with
  | cons v r => simp at hst
  | nil =>
  exact hF _ h bs ws H locs cells slots cls pc h1 (Or.inr (Or.inl ⟨hd, .int, x, hr, rfl, rfl⟩)) hw hP hD hS (by omega) (by omega)
theorem ok_zreturn {mt : Nat → pM} {law : Nat} {M : pM} {il : Bool} {sc : List Int32} {pc : Nat} (hd : decode M.2.1 pc = .ok (.ireturn, 1)) (hr : M.2.2.2 = some .boolean) : pOk mt law M il sc pc oRetZ := by
  intro l D cI cO adK adV b B id ls st h Q hM hL hop p e R s m args below meth c H locs cells slots mc ms Z A as0 bs ws cls cst hC hX hw hP hD hS hl hst hB hF
  subst hM
  cases st with
  | nil => exact hop.elim
  | cons v r =>
  cases r with
  | cons v2 r2 => exact hop.elim
  | nil =>
  obtain ⟨x, rfl, hz, h1⟩ := pI_inv (show pI v _ from hop)
  obtain ⟨c1, rfl, hst1⟩ := sI hst
  replace hst := hst1
  cases c1 with
  | cons v r => simp at hst
  | nil =>
  exact hF _ h bs ws H locs cells slots cls pc h1 (Or.inr (Or.inl ⟨hd, .boolean, x, hr, by rcases hz with rfl | rfl <;> rfl, rfl⟩)) hw hP hD hS (by omega) (by omega)
theorem ok_lreturn {mt : Nat → pM} {law : Nat} {M : pM} {il : Bool} {sc : List Int32} {pc : Nat} (hd : decode M.2.1 pc = .ok (.lreturn, 1)) (hr : M.2.2.2 = some .long) : pOk mt law M il sc pc oRetL := by
  intro l D cI cO adK adV b B id ls st h Q hM hL hop p e R s m args below meth c H locs cells slots mc ms Z A as0 bs ws cls cst hC hX hw hP hD hS hl hst hB hF
  subst hM
  cases st with
  | nil => exact hop.elim
  | cons v r =>
  cases r with
  | cons v2 r2 => exact hop.elim
  | nil =>
  obtain ⟨x, rfl, h1⟩ := pJ_inv (show pJ v _ from hop)
  obtain ⟨c1, rfl, hst1⟩ := sJ hst
  replace hst := hst1
  cases c1 with
  | cons v r => simp at hst
  | nil =>
  exact hF _ h bs ws H locs cells slots cls pc h1 (Or.inr (Or.inr ⟨hd, hr, x, rfl⟩)) hw hP hD hS (by omega) (by omega)
