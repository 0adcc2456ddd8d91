/-! Calls. -/
theorem pNest.go {s U : State} (hW : s.WarmedH U.vm) (h : pNest s) : pNest U := ⟨fun q hq => (h.1 q hq).warmM hW, h.2.1.moved hW.alike, h.2.2.warmC hW⟩
theorem pExt.go {adK adV : Nat → Nat} {A A' : Nat → Prop} {s U : State} {H : Heap} {locs : List Loc} (h : pExt adK adV A s) (hS : va_S A s.heap H locs) (hU : U.heap = H) (hW : s.WarmedH U.vm) (hA : ∀ q, A' q → A q) : pExt adK adV A' U := by
  obtain ⟨h0, ⟨h1, h2, h3, h4, h5⟩, h6, h7, h8⟩ := h
  refine ⟨h0.go hW, ⟨h1.warm hW, h2.warm hW, h3.warm hW, h4.warm hW, h5.warm hW⟩, ?_⟩
  rw [hU]
  exact ⟨((h6.kept hS.2.1).moved hW.alike).narrow hA, ((h7.kept hS.2.1).moved hW.alike).narrow hA, ((h8.kept hS.2.1).moved hW.alike).narrow hA⟩
theorem pExt.blind {adK adV : Nat → Nat} {A : Nat → Prop} {U : State} {g : JFrame} {mk : MethodId} {a : Array Value} (h : pExt adK adV A U) : pExt adK adV A (U.calling g mk a) := by
  obtain ⟨⟨h0, h00, h01⟩, ⟨h1, h2, h3, h4, h5⟩, h6, h7, h8⟩ := h
  refine ⟨⟨fun q hq => (h0 q hq).same rfl rfl, ?_, va_Nw.same rfl rfl h01⟩, ⟨h1.same rfl, h2.same rfl, h3.same rfl, h4.same rfl, h5.same rfl⟩, ?_⟩
  · exact va_AO.moved (u := U) (U := U.calling g mk a) (Vm.Alike.refl U.vm) h00
  · exact ⟨vk_S.moved (u := U) (U := U.calling g mk a) (Vm.Alike.refl U.vm) h6, va_Z.moved (u := U) (U := U.calling g mk a) (Vm.Alike.refl U.vm) h7, va_Zq.moved (u := U) (U := U.calling g mk a) (Vm.Alike.refl U.vm) h8⟩
/-- a callee's start -/
def pPre (D : va_G) (cI cO : ClassId) (adK adV : Nat → Nat) (wc : va_W) (sz : Nat) (U : State) : Prop := U.heap.size = sz ∧ va_P D clsP wc U.heap ∧ va_K D clsP (pTys cI cO) U ∧ va_D (fun _ => True) wc ∧ pExt adK adV (va_A wc sz) U
/-- and its end -/
def pPost (D : va_G) (cI cO : ClassId) (adK : Nat → Nat) (b : Nat) (asc : List Nat) (wc : va_W) (sz : Nat) (Qc : pQ) : Array Value → State → Outcome → State → Prop := fun _ st oc t =>
  (∃ (r : Option Value) (h' : pH) (nb : List Nat) (ws' : va_W), oc = .returned r ∧ Qc r h' ∧ (r = none ∨ (∃ x, r = some (.int x)) ∨ ∃ x, r = some (.long x)) ∧ wR cI cO (pSa adK b) (asc ++ nb) h' ws' ∧ va_P D clsP ws' t.heap ∧ va_D (va_A wc sz) ws') ∧ va_F (va_A wc sz) st t
abbrev pRm (d k z : Nat) : Room := { frames := d + 8, cells := k, slots := z, locals := 60 * (d + 8) }
theorem pEnt_args {sa : Nat → Option Nat} {as : List Nat} : ∀ (av avc : List Value) (o : Nat), av.map (tv sa as) = avc.map some → (∀ v ∈ av, ∀ x, v ≠ .double x) → (pEnt av).length = (lg_sl avc).length ∧ ∀ i v, pg (pEnt av) i = some (some v) → ∃ w, tv sa as v = some w ∧ (o + i, w) ∈ lv_args o avc
  | [], [], o, _, _ => ⟨rfl, fun i v h => by simp [pEnt, pg] at h⟩
  | [], _ :: _, o, h, _ => by simp at h
  | _ :: _, [], o, h, _ => by simp at h
  | v :: av, w :: avc, o, h, hd => by
    simp only [List.map_cons, List.cons.injEq] at h
    obtain ⟨h1, h2⟩ := h
    have hc := tv_cat h1
    by_cases hv : ∃ x, v = .long x
    · obtain ⟨x, rfl⟩ := hv
      have hc2 : w.category = 2 := hc
      obtain ⟨g1, g2⟩ := pEnt_args av avc (o + 2) h2 (fun v hv => hd v (List.mem_cons_of_mem _ hv))
      refine ⟨?_, fun i u hi => ?_⟩
      · simp only [pEnt, lg_sl, List.flatMap_cons, hc2, if_true, List.length_append, List.length_cons]
        rw [g1]
        simp [lg_sl]
        omega
      · simp only [lv_args, hc2, if_true]
        match i, hi with
        | 0, hi => simp only [pEnt, pg, Option.some.injEq] at hi; subst hi; exact ⟨w, h1, List.mem_cons_self⟩
        | 1, hi => simp [pEnt, pg] at hi
        | i + 2, hi =>
          obtain ⟨z, q1, q2⟩ := g2 i u hi
          exact ⟨z, q1, List.mem_cons_of_mem _ (by rw [show o + (i + 2) = o + 2 + i by omega]; exact q2)⟩
    · have hc2 : ¬ w.category = 2 := by
        rw [hc]
        cases v with
        | long x => exact absurd ⟨x, rfl⟩ hv
        | double x => exact absurd rfl (hd (.double x) List.mem_cons_self x)
        | _ => simp [Value.category]
      have he : pEnt (v :: av) = some v :: pEnt av := by
        cases v with
        | long x => exact absurd ⟨x, rfl⟩ hv
        | _ => rfl
      obtain ⟨g1, g2⟩ := pEnt_args av avc (o + 1) h2 (fun v hv => hd v (List.mem_cons_of_mem _ hv))
      rw [he]
      refine ⟨?_, fun i u hi => ?_⟩
      · simp only [lg_sl, List.flatMap_cons, hc2, if_false, List.length_append, List.length_cons]
        rw [g1]
        simp [lg_sl]
        omega
      · simp only [lv_args, hc2, if_false]
        match i, hi with
        | 0, hi => simp only [pg, Option.some.injEq] at hi; subst hi; exact ⟨w, h1, List.mem_cons_self⟩
        | i + 1, hi =>
          obtain ⟨z, q1, q2⟩ := g2 i u hi
          exact ⟨z, q1, List.mem_cons_of_mem _ (by rw [show o + (i + 1) = o + 1 + i by omega]; exact q2)⟩
theorem pEntry_lR {sa : Nat → Option Nat} {as : List Nat} {av avc : List Value} {n : Nat} (h : av.map (tv sa as) = avc.map some) (hd : ∀ v ∈ av, ∀ x, v ≠ .double x) (hn : (pEnt av).length ≤ n) : lR sa as (pEntry av n) n ((lg_sl avc ++ List.replicate (n - (lg_sl avc).length) Slot.unset).toArray) := by
  obtain ⟨g1, g2⟩ := pEnt_args av avc 0 h hd
  refine ⟨by rw [pEntry, List.length_append, List.length_replicate]; omega, _, lv_entry avc (by omega), fun i v hi => ?_⟩
  by_cases hl : i < (pEnt av).length
  · rw [pEntry, pg_eq, List.getElem?_append_left hl, ← pg_eq] at hi
    obtain ⟨w, q1, q2⟩ := g2 i v hi
    rw [Nat.zero_add] at q2
    exact ⟨w, q1, q2⟩
  · rw [pEntry, pg_eq, List.getElem?_append_right (by omega), List.getElem?_replicate] at hi
    split at hi <;> cases hi
/-- THE CALLEE'S CONTRACT, out of what its pure start says -/
theorem pMet {mt : Nat → pM} {law : Nat} {l : Launch} {D : va_G} {cI cO : ClassId} {adK adV : Nat → Nat} {b : Nat} {sc : List Int32} {cid d k z sz : Nat} {av avc : List Value} {hc : pH} {Qc : pQ} {asc : List Nat} {wc : va_W} {M : pM} (hM : mt cid = M) (hlaw : cid ≠ law) (hy : plainName M.1.cls = true) (hsnd : pSnd mt law l D cI cO adK adV b sc (d, k, z) cid 0 (pEntry av M.2.2.1) [] hc Qc) (hw : wR cI cO (pSa adK b) asc hc wc) (hav : av.map (tv (pSa adK b) asc) = avc.map some) (hd : ∀ v ∈ av, ∀ x, v ≠ .double x) (hn : (pEnt av).length ≤ M.2.2.1) :
    Met l M.1 (.code M.1 M.2.1 M.2.2.1 M.2.2.2 :: lw_good) (pRm d k z) (va_Pc avc (pPre D cI cO adK adV wc sz)) (pPost D cI cO adK b asc wc sz Qc) k z (va_A wc sz) := by
  subst hM
  refine Met.ofW (cc := (mt cid).2.1) (maxL := (mt cid).2.2.1) (ret := (mt cid).2.2.2) hy rfl ?_
  intro p e s m args below meth c s₁ B hml hv
  obtain ⟨rfl, hsz, hP, hK, hD0, hE⟩ := hv
  have hts := atoms_spec (ws := (Cond.code (mt cid).1 (mt cid).2.1 (mt cid).2.2.1 (mt cid).2.2.2 :: lw_good)) B.pre
  have hown : s.vm.findClass (mt cid).1.cls = some m.cls := findClass_of_methodNamed B.named
  have hlocks : meth.locks = false := B.notSynchronized
  subst hsz
  have hD := hD0.self (sz := s.heap.size)
  have hA : ∀ q : Nat, s.heap.size ≤ q → va_A wc s.heap.size q := fun q h => Or.inr h
  rw [lg_entry_eq]
  have hw2 : wR cI cO (pSa adK b) (asc ++ []) hc wc := by rw [List.append_nil]; exact hw
  have hav2 : av.map (tv (pSa adK b) (asc ++ [])) = avc.map some := by rw [List.append_nil]; exact hav
  refine hsnd p e (headSpec (Cond.code (mt cid).1 (mt cid).2.1 (mt cid).2.2.1 (mt cid).2.2.2 :: lw_good) (pRm d k z)).room s m avc.toArray below meth c s.heap [] 0 0 k z _ (va_A wc s.heap.size) asc [] wc _ [] ⟨B.exec, B.bytes, hml, hown, fun w h => hts w (List.mem_cons_of_mem _ h), hK, (name_of_methodNamed B.named B.method).1, B.returns, hlocks, hE, hA⟩ (fun q => absurd q hlaw) hw2 hP hD va_S.rf (pEntry_lR hav2 hd hn) rfl ⟨Nat.le_refl _, Nat.le_refl _, by show 0 + k ≤ k; omega, by show 0 + z ≤ z; omega, Nat.le_refl k, Nat.le_refl z⟩ ?_
  intro r h' bs ws H locs cells slots cls pc hq hr hw' hP' hD' hS' hk hz
  refine W.widen (k := k) (n := z) hk hz ?_
  rcases hr with ⟨hd1, hr1, rfl⟩ | ⟨hd1, ty, x, hr1, hnr, rfl⟩ | ⟨hd1, hr1, x, rfl⟩
  · exact W.vret B.exec B.bytes (B.returns.trans hr1) (fun t ht hW => ⟨⟨none, h', bs, ws, rfl, hq, Or.inl rfl, hw', by rw [ht]; exact hP', hD'⟩, hS'.F ht⟩) hS'.2.2 hd1
  · exact W.zret (v := x) B.exec B.bytes (B.returns.trans hr1) hnr (fun t ht hW => ⟨⟨some (.int x), h', bs, ws, rfl, hq, Or.inr (Or.inl ⟨x, rfl⟩), hw', by rw [ht]; exact hP', hD'⟩, hS'.F ht⟩) hS'.2.2 hd1
  · exact W.lret (v := x) B.exec B.bytes (B.returns.trans hr1) (fun t ht hW => ⟨⟨some (.long x), h', bs, ws, rfl, hq, Or.inr (Or.inr ⟨x, rfl⟩), hw', by rw [ht]; exact hP', hD'⟩, hS'.F ht⟩) hS'.2.2 hd1
theorem pBlind {D : va_G} {cI cO : ClassId} {adK adV : Nat → Nat} {wc : va_W} {sz : Nat} {avc : List Value} : FrameBlind (va_Pc avc (pPre D cI cO adK adV wc sz)) := by
  intro a U g mk h
  obtain ⟨h1, h2, h3, h4, h5, h6⟩ := h
  exact ⟨h1, h2, h3, va_K.moved (u := U) (U := U.calling g mk a) (Vm.Alike.refl U.vm) h4, h5, h6.blind⟩
