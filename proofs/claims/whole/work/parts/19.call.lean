/-! Calls: behind the call; the kinds of calls. -/
theorem pNoD_ok : ∀ (av : List Value), pNoD av = true → ∀ v ∈ av, ∀ x, v ≠ .double x
  | [], _, v, hv, _ => by cases hv
  | u :: av, h, v, hv, x => by
    have h2 : pNoD av = true := by
      cases u with
      | double y => cases h
      | _ => exact h
    rcases List.mem_cons.mp hv with rfl | hv
    · intro q; subst q; cases h
    · exact pNoD_ok av h2 v hv x
theorem good_in {ws : List Cond} (h : ∀ w ∈ ws, w ∈ lw_good) : GoodIn lw_good ws := fun w hw => ⟨h w hw, good_of_word (List.mem_filter.mp (h w hw)).2⟩
theorem pAfter {mt : Nat → pM} {law : Nat} {l : Launch} {D : va_G} {cI cO : ClassId} {adK adV : Nat → Nat} {b : Nat} {sc : List Int32} {B : pB} {id pc : Nat} {ls : pL} {strest : List Value} {h : pH} {Q : pQ} {p : Program} {e : Env} {R : Room} {s : State} {m : MethodId} {args : Array Value} {below : List Frame} {meth : Method} {c : Code} {H : Heap} {locs : List Loc} {cells slots mc ms : Nat} {Z : State → Prop} {A : Nat → Prop} {as0 bs : List Nat} {ws : va_W} {cls : Array Slot} {cst crest avc : List Value} {ρ asc : List Nat} {wc : va_W} {k z : Nat} {Qc : pQ}
    (hr : va_Run p l e R s m args below meth c H locs cells slots k z (F0 m pc cls cst) crest (pPost D cI cO adK b asc wc H.size Qc avc.toArray) (va_A wc H.size))
    (hC : pCtx l D cI cO adK adV (mt id) p s m args meth c A) (hX : id = law → va_X b sc.length (fun j => sc.getD j 0) s s.heap ∧ b < s.heap.size ∧ ¬ A b) (hw : wR cI cO (pSa adK b) (as0 ++ bs) h ws) (hP : va_P D clsP ws H) (hD : va_D A ws) (hS : va_S A s.heap H locs) (hl : lR (pSa adK b) (as0 ++ bs) ls (mt id).2.2.1 cls) (hrest : strest.map (tv (pSa adK b) (as0 ++ bs)) = crest.map some) (hB : B.1 + 8 ≤ R.frames ∧ 60 * (B.1 + 8) ≤ R.locals ∧ cells + B.2.1 ≤ mc ∧ slots + B.2.2 ≤ ms ∧ mc ≤ R.cells ∧ ms ≤ R.slots) (hF : pFin l D cI cO adK b (mt id) p e R s m args below meth c A as0 mc ms Q Z)
    (hn : va_nd ρ = true) (ha : ρ.map (pg (as0 ++ bs)) = asc.map some) (hwc : ρ.map (fun i => ws[i]?) = wc.map some) (hkz : k ≤ B.2.1 ∧ z ≤ B.2.2)
    (kk : ∀ r h', Qc r h' → ρ.length ≤ h'.length ∧ pSnd mt law l D cI cO adK adV b sc (B.1, B.2.1 - k, B.2.2 - z) id (pc + 3) ls (rpush (rext ρ h.length h') r strest) (hput (rext ρ h.length h') ρ h' h) Q) :
    W p l e R s m args below meth c H locs cells slots Z (F0 m pc cls cst) := by
  intro T hT X
  obtain ⟨v, st₀, t, T', L, h0, X', hL, e1, e2, ⟨⟨r, h', nb, ws', hv, hq, hrk, hw', hP', hD'⟩, hz, hk⟩, stp⟩ := hr T hT X
  cases hv
  rw [h0] at hz hk
  obtain ⟨hlen, hsnd⟩ := kk v h' hq
  have hA := hC.2.2.2.2.2.2.2.2.2.2
  have hfree := va_free hD hS hA ρ hwc
  have lws : ws.length = h.length := hw.2.1
  have las : (as0 ++ bs).length = h.length := by rw [← hw.2.1, ← hw.1, List.length_map]
  have lasc : asc.length = ρ.length := by have := congrArg List.length ha; simpa using this.symm
  have lws' : ws'.length = h'.length := hw'.2.1
  have lnb : ρ.length + nb.length = h'.length := by rw [← hw'.2.1, ← List.length_map (f := fun q : Nat × va_E => q.1), hw'.1, List.length_append, lasc]
  have hρ : ∀ i ∈ ρ, i < h.length := by
    intro i hi
    obtain ⟨k, hk⟩ := List.getElem?_of_mem hi
    obtain ⟨a, -, h2⟩ := pg_map ha (by rw [pg_eq]; exact hk)
    have := pg_lt h2
    omega
  have eρ : rext ρ h.length h' = ρ ++ List.range' h.length nb.length := by rw [rext, show h'.length - ρ.length = nb.length by omega]
  have hout : ∀ j i, pg (rext ρ h.length h') j = some i → pg (asc ++ nb) j = pg (as0 ++ (bs ++ nb)) i := by
    intro j i hj
    rw [eρ, pg_eq] at hj
    rw [← List.append_assoc]
    by_cases hjl : j < ρ.length
    · rw [List.getElem?_append_left hjl] at hj
      obtain ⟨a, h1, h2⟩ := pg_map ha (by rw [pg_eq]; exact hj)
      rw [pg_app h1, pg_app h2]
    · rw [List.getElem?_append_right (by omega)] at hj
      have hj2 := (List.getElem?_eq_some_iff.mp hj).1
      rw [List.length_range'] at hj2
      rw [List.getElem?_range' hj2] at hj
      have hi : i = h.length + (j - ρ.length) := by have := Option.some.inj hj; omega
      subst hi
      rw [pg_eq, pg_eq, List.getElem?_append_right (by omega), List.getElem?_append_right (by omega)]
      congr 1
      omega
  have hol : (asc ++ nb).length ≤ (rext ρ h.length h').length := by rw [eρ]; simp [lasc]
  have hwn : wR cI cO (pSa adK b) (as0 ++ (bs ++ nb)) (hput (rext ρ h.length h') ρ h' h) (lput ρ ws' ws) := by
    refine ⟨?_, ?_, fun i c0 hi => ?_⟩
    · rw [lput_map, hw'.1, hw.1, ← List.append_assoc]
      exact lput_self ρ asc nb (as0 ++ bs) (by rw [← ha]; exact List.map_congr_left (fun i _ => (pg_eq _ _).symm))
    · rw [hput_eq, lput_len _ _ _ (by omega), lput_len _ _ _ (by rw [List.length_map]; exact hlen), List.length_map]
      omega
    · rw [hput_eq, pg_eq] at hi
      rcases lput_cases hn hρ (by rw [List.length_map]; exact hlen) hi with ⟨j, hj1, hj2⟩ | ⟨hj1, hj2, hj3⟩
      · rw [List.length_map] at hj1
        rw [List.getElem?_map] at hj2
        cases hc0 : h'[j]? with
        | none => rw [hc0] at hj2; cases hj2
        | some d0 =>
          rw [hc0] at hj2
          cases hj2
          obtain ⟨a, e0, q1, q2, q3⟩ := hw'.2.2 j d0 (by rw [pg_eq]; exact hc0)
          refine ⟨a, e0, by rw [← hout j i (by rw [pg_eq]; exact hj1)]; exact q1, ?_, tc_out hout hol q3⟩
          by_cases hjl : j < ρ.length
          · rw [List.getElem?_append_left hjl] at hj1
            rw [lput_at ρ ws' ws j i hn hj1 (by rw [lws]; exact hρ i (List.mem_of_getElem? hj1)) (by omega)]
            exact q2
          · rw [List.getElem?_append_right (by omega)] at hj1
            have hj2 := (List.getElem?_eq_some_iff.mp hj1).1
            rw [List.length_range'] at hj2
            rw [List.getElem?_range' hj2] at hj1
            have hi2 : i = h.length + (j - ρ.length) := by have := Option.some.inj hj1; omega
            subst hi2
            rw [lput_new ρ ws' ws _ (by omega) (by omega), show ρ.length + (h.length + (j - ρ.length) - ws.length) = j by omega]
            exact q2
      · obtain ⟨a, e0, q1, q2, q3⟩ := hw.2.2 i c0 (by rw [pg_eq]; exact hj3)
        exact ⟨a, e0, by rw [← List.append_assoc]; exact pg_app q1, by rw [lput_other ρ ws' ws i hj1 (by omega)]; exact q2, by rw [← List.append_assoc]; exact tc_app q3⟩
  have apart : ∀ (i : Nat) (q : Nat × va_E), i ∉ ρ → ws[i]? = some q → q.1 < H.size ∧ ¬ va_A wc H.size q.1 := by
    intro i q hi hq0
    have hlt := (hP i q hq0).lt
    refine ⟨hlt, fun h9 => ?_⟩
    rcases h9 with ⟨k2, e0, h9⟩ | h9
    · obtain ⟨j, h3, h4⟩ := map_at hwc h9
      have hij := hD.1 i j q (q.1, e0) hq0 h4 rfl
      subst hij
      exact hi (List.mem_of_getElem? h3)
    · omega
  have hρw : ∀ i ∈ ρ, i < ws.length := fun i hi => by rw [lws]; exact hρ i hi
  have hPn : va_P D clsP (lput ρ ws' ws) T'.heap := by
    intro i q hi
    rcases lput_cases hn hρw (by omega) hi with ⟨j, -, hj2⟩ | ⟨hj1, hj2, hj3⟩
    · rw [e1]; exact hP' j q hj2
    · obtain ⟨g1, g2⟩ := apart i q hj1 hj3
      exact (hP i q hj3).kept (by rw [e1]; exact hk q.1 g1 g2)
  have hDn : va_D A (lput ρ ws' ws) := by
    refine ⟨fun i j x y hi hj hxy => ?_, fun i q hi => ?_⟩
    · rcases lput_cases hn hρw (by omega) hi with ⟨k1, a1, a2⟩ | ⟨a1, a2, a3⟩ <;> rcases lput_cases hn hρw (by omega) hj with ⟨k2, b1, b2⟩ | ⟨b1, b2, b3⟩
      · have hkk := hD'.1 k1 k2 x y a2 b2 hxy
        subst hkk
        rw [a1] at b1
        exact Option.some.inj b1
      · exact absurd (by rw [← hxy]; exact hD'.2 k1 x a2) (apart j y b1 b3).2
      · exact absurd (by rw [hxy]; exact hD'.2 k2 y b2) (apart i x a1 a3).2
      · exact hD.1 i j x y a3 b3 hxy
    · rcases lput_cases hn hρw (by omega) hi with ⟨k1, a1, a2⟩ | ⟨a1, a2, a3⟩
      · exact hfree _ (hD'.2 k1 q a2)
      · exact hD.2 i q a3
  have hSn : va_S A s.heap T'.heap (locs ++ L) := ⟨Nat.le_trans hS.1 (by rw [e1]; exact hz), fun q h1 h2 => by rw [e1, hk q (Nat.lt_of_lt_of_le h1 hS.1) (fun z => h2 (hfree q z))]; exact hS.2.1 q h1 h2, fun q hq => by
      rcases List.mem_append.mp hq with h | h
      · exact hS.2.2 q h
      · exact hfree _ (hL q h)⟩
  have hstn : (rpush (rext ρ h.length h') v strest).map (tv (pSa adK b) (as0 ++ (bs ++ nb))) = (v.toList ++ crest).map some := by
    rw [← List.append_assoc]
    rcases hrk with rfl | ⟨x, rfl⟩ | ⟨x, rfl⟩
    · exact tv_apps hrest
    · exact sC rfl (tv_apps hrest)
    · exact sC rfl (tv_apps hrest)
  have K := hsnd p e R s m args below meth c T'.heap (locs ++ L) (cells + k) (slots + z) mc ms Z A as0 (bs ++ nb) (lput ρ ws' ws) cls _ hC hX hwn hPn hDn hSn (by rw [← List.append_assoc]; exact hl.app) hstn ⟨hB.1, hB.2.1, by show cells + k + (B.2.1 - k) ≤ mc; omega, by show slots + z + (B.2.2 - z) ≤ ms; omega, hB.2.2.2.2⟩ hF
  obtain ⟨t2, a1, b1⟩ := K T' rfl X'
  exact ⟨t2, stp t2 a1, b1⟩
theorem pSa99 {adK : Nat → Nat} {b : Nat} : pSa adK b 99999 = none := rfl
/-- a call, once the machine's own step is known -/
theorem pCall {mt : Nat → pM} {law : Nat} {l : Launch} {D : va_G} {cI cO : ClassId} {adK adV : Nat → Nat} {b : Nat} {sc : List Int32} {B : pB} {id pc : Nat} {ls : pL} {st : List Value} {h : pH} {Q : pQ} {p : Program} {e : Env} {R : Room} {s : State} {m : MethodId} {args : Array Value} {below : List Frame} {meth : Method} {c : Code} {H : Heap} {locs : List Loc} {cells slots mc ms : Nat} {Z : State → Prop} {A : Nat → Prop} {as0 bs : List Nat} {ws : va_W} {cls : Array Slot} {cst : List Value} {cid na : Nat} {Mc : pM}
    (hC : pCtx l D cI cO adK adV (mt id) p s m args meth c A) (hX : id = law → va_X b sc.length (fun j => sc.getD j 0) s s.heap ∧ b < s.heap.size ∧ ¬ A b) (hw : wR cI cO (pSa adK b) (as0 ++ bs) h ws) (hP : va_P D clsP ws H) (hD : va_D A ws) (hS : va_S A s.heap H locs) (hl : lR (pSa adK b) (as0 ++ bs) ls (mt id).2.2.1 cls) (hst : st.map (tv (pSa adK b) (as0 ++ bs)) = cst.map some) (hB : B.1 + 8 ≤ R.frames ∧ 60 * (B.1 + 8) ≤ R.locals ∧ cells + B.2.1 ≤ mc ∧ slots + B.2.2 ≤ ms ∧ mc ≤ R.cells ∧ ms ≤ R.slots) (hF : pFin l D cI cO adK b (mt id) p e R s m args below meth c A as0 mc ms Q Z)
    (hMc : mt cid = Mc) (hlaw : cid ≠ law) (hy : plainName Mc.1.cls = true) (hop : oCall cid na Mc.2.2.1 (pc + 3) (pSnd mt law l D cI cO adK adV b sc) B id ls st h Q)
    (run : ∀ (k z : Nat) (wc : va_W) (avc crest : List Value) (Qx : Array Value → State → Outcome → State → Prop), Met l Mc.1 (.code Mc.1 Mc.2.1 Mc.2.2.1 Mc.2.2.2 :: lw_good) (pRm (B.1 - 1) k z) (va_Pc avc (pPre D cI cO adK adV wc H.size)) Qx k z (va_A wc H.size) → (∀ U : State, U.heap = H → s.WarmedH U.vm → va_Pc avc (pPre D cI cO adK adV wc H.size) avc.toArray U) → cst = avc.reverse ++ crest → avc.length = na → (st.take na).reverse.map (tv (pSa adK b) (as0 ++ bs)) = avc.map some → (crest.map fun v => v.category).sum ≤ 8 → 1 ≤ B.1 → cells + k ≤ R.cells ∧ slots + z ≤ R.slots → va_Run p l e R s m args below meth c H locs cells slots k z (F0 m pc cls cst) crest (Qx avc.toArray) (va_A wc H.size)) :
    W p l e R s m args below meth c H locs cells slots Z (F0 m pc cls cst) := by
  obtain ⟨ρ, av, hc, k, z, Qc, ⟨⟨g1, g2, g3⟩, g4, g5, g6, ⟨g7, g8⟩, g9, g10, g11⟩, hcal, kk⟩ := hop
  have hA := hC.2.2.2.2.2.2.2.2.2.2
  have hlen : cst.length = st.length := by have := congrArg List.length hst; simpa using this.symm
  have hρh : ∀ i ∈ ρ, ∃ c0, pg h i = some c0 := by
    intro i hi
    obtain ⟨j, hj⟩ := List.getElem?_of_mem hi
    have h1 : (ρ.map (pg h))[j]? = some (pg h i) := by rw [List.getElem?_map, hj]; rfl
    rw [g5, List.getElem?_map] at h1
    cases hcj : hc[j]? with
    | none => rw [hcj] at h1; cases h1
    | some c0 => rw [hcj] at h1; exact ⟨_, (Option.some.inj h1).symm⟩
  obtain ⟨asc, ha⟩ := map_exists (f := pg (as0 ++ bs)) ρ (fun i hi => by
    obtain ⟨c0, h1⟩ := hρh i hi
    obtain ⟨a, e0, q1, -, -⟩ := hw.2.2 i c0 h1
    exact ⟨a, q1⟩)
  obtain ⟨wc, hwc⟩ := map_exists (f := fun i : Nat => ws[i]?) ρ (fun i hi => by
    obtain ⟨c0, h1⟩ := hρh i hi
    obtain ⟨a, e0, -, q2, -⟩ := hw.2.2 i c0 h1
    exact ⟨_, q2⟩)
  have lasc : asc.length = ρ.length := by have := congrArg List.length ha; simpa using this.symm
  have lwc : wc.length = ρ.length := by have := congrArg List.length hwc; simpa using this.symm
  have lhc : hc.length = ρ.length := by have := congrArg List.length g5; simpa using this.symm
  have hwR : wR cI cO (pSa adK b) asc hc wc := by
    have key : ∀ (j i : Nat), ρ[j]? = some i → ∀ c0, hc[j]? = some c0 → ∃ a e0, pg asc j = some a ∧ wc[j]? = some (a, e0) ∧ tc cI cO (pSa adK b) asc c0 e0 := by
      intro j i hj c0 hc0
      have h1 : (ρ.map (pg h))[j]? = some (pg h i) := by rw [List.getElem?_map, hj]; rfl
      rw [g5, List.getElem?_map, hc0] at h1
      obtain ⟨a, e0, q1, q2, q3⟩ := hw.2.2 i _ (Option.some.inj h1).symm
      obtain ⟨a', g1, g2⟩ := pg_map ha (by rw [pg_eq]; exact hj)
      rw [q1] at g2
      cases g2
      obtain ⟨w', g3, g4⟩ := pg_map hwc (by rw [pg_eq]; exact hj)
      rw [q2] at g4
      cases g4
      exact ⟨a, e0, g1, by rw [← pg_eq]; exact g3, tc_in pSa99 ha q3⟩
    refine ⟨?_, by omega, fun j c0 hj => ?_⟩
    · apply List.ext_getElem?
      intro j
      rw [List.getElem?_map]
      by_cases hj : j < ρ.length
      · have hj1 : ρ[j]? = some ρ[j] := List.getElem?_eq_getElem hj
        have hj2 : hc[j]? = some (hc[j]'(by omega)) := List.getElem?_eq_getElem (by omega)
        obtain ⟨a, e0, q1, q2, -⟩ := key j _ hj1 _ hj2
        rw [q2, ← pg_eq, q1]; rfl
      · rw [List.getElem?_eq_none (by omega), List.getElem?_eq_none (by omega)]; rfl
    · have hjl := pg_lt hj
      exact key j _ (List.getElem?_eq_getElem (by omega)) c0 (by rw [← pg_eq]; exact hj)
  have hsplit : (st.take na).map (tv (pSa adK b) (as0 ++ bs)) = (cst.take na).map some ∧ (st.drop na).map (tv (pSa adK b) (as0 ++ bs)) = (cst.drop na).map some := by
    constructor
    · rw [List.map_take, List.map_take, hst]
    · rw [List.map_drop, List.map_drop, hst]
  have hargs : (st.take na).reverse.map (tv (pSa adK b) (as0 ++ bs)) = (cst.take na).reverse.map some := by
    rw [List.map_reverse, List.map_reverse, hsplit.1]
  have hav : av.map (tv (pSa adK b) asc) = (cst.take na).reverse.map some := tv_ins pSa99 ha (by rw [← g6]; exact hargs)
  have hMet := pMet (sz := H.size) hMc hlaw hy hcal hwR hav (pNoD_ok av g11) g10
  have hPc : va_P D clsP wc H := by
    intro j q hj
    obtain ⟨i, -, h2⟩ := map_at hwc hj
    exact hP i q h2
  have hDc := hD.sub ρ g4 hwc
  have hfree := va_free hD hS hA ρ hwc
  have hrun := run k z wc (cst.take na).reverse (cst.drop na) _ hMet (fun U hU hW => ⟨rfl, by rw [hU], by rw [hU]; exact hPc, va_K.moved hW.alike hC.2.2.2.2.2.1, hDc.weaken (fun _ _ _ _ => trivial), hC.2.2.2.2.2.2.2.2.2.1.go hS hU hW hfree⟩) (by rw [List.reverse_reverse, List.take_append_drop]) (by rw [List.length_reverse, List.length_take]; omega) hargs (by rw [tv_cats hsplit.2]; exact g9) g1 ⟨by omega, by omega⟩
  exact pAfter hrun hC hX hw hP hD hS hl hsplit.2 hB hF g4 ha hwc ⟨g2, g3⟩ kk
