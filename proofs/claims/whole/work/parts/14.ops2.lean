/-! Switches; the heap. -/
theorem pSw_lookup {x : Int32} {K : Nat → Prop} {d : Nat} {pc : Nat} {dflt : Int} (hd : (pc : Int) + dflt = (d : Int)) : ∀ (ps : List (Int × Int)) (ts : List (Int32 × Nat)), ps.map (fun q => (q.1, (pc : Int) + q.2)) = ts.map (fun q => (q.1.toInt, (q.2 : Int))) → pSw x K d ts → ∃ t : Nat, (pc : Int) + Op.lookupswitch.offset ps dflt x.toInt = (t : Int) ∧ K t
  | [], [], _, h => ⟨d, hd, h⟩
  | [], _ :: _, h, _ => by simp at h
  | _ :: _, [], h, _ => by simp at h
  | (a, o) :: ps, (k, t) :: ts, h, hs => by
    simp only [List.map_cons, List.cons.injEq, Prod.mk.injEq] at h
    obtain ⟨⟨h1, h2⟩, h3⟩ := h
    by_cases hx : x = k
    · refine ⟨t, ?_, hs.1 hx⟩
      subst hx
      rw [← h2, h1]
      simp [Op.lookupswitch.offset]
    · rw [lv_osw hx h1.symm]
      exact pSw_lookup hd ps ts h3 (hs.2 hx)
theorem pSw_table {x : Int32} {K : Nat → Prop} {d : Nat} {pc : Nat} : ∀ (offs : List Int) (ts : List (Int32 × Nat)) (lo : Int), ts.map (fun q => (q.2 : Int)) = offs.map (fun o => (pc : Int) + o) → (∀ (i : Nat) (q : Int32 × Nat), ts[i]? = some q → q.1.toInt = lo + i) → pSw x K d ts → ((x.toInt < lo ∨ lo + offs.length ≤ x.toInt) ∧ K d) ∨ (¬ x.toInt < lo ∧ x.toInt < lo + offs.length ∧ ∃ (off : Int) (t : Nat), offs[(x.toInt - lo).toNat]? = some off ∧ (pc : Int) + off = (t : Int) ∧ K t)
  | [], [], lo, _, _, h => Or.inl ⟨by simp; omega, h⟩
  | [], _ :: _, _, h, _, _ => by simp at h
  | _ :: _, [], _, h, _, _ => by simp at h
  | o :: offs, (k, t) :: ts, lo, h, hk, hs => by
    simp only [List.map_cons, List.cons.injEq] at h
    have h0 := hk 0 (k, t) rfl
    simp only [Int.natCast_zero, Int.add_zero] at h0
    by_cases hx : x = k
    · refine Or.inr ⟨by rw [hx, h0]; omega, by rw [hx, h0, List.length_cons]; omega, o, t, ?_, h.1.symm, hs.1 hx⟩
      rw [hx, h0, Int.sub_self]; rfl
    · have hne : ¬ x.toInt = lo := lv_neT hx h0
      rcases pSw_table offs ts (lo + 1) h.2 (fun i q hi => by rw [hk (i + 1) q hi]; omega) (hs.2 hx) with ⟨a1, a2⟩ | ⟨a1, a2, off, t2, a3, a4, a5⟩
      · refine Or.inl ⟨?_, a2⟩
        rw [List.length_cons]
        rcases a1 with a1 | a1
        · exact Or.inl (by omega)
        · exact Or.inr (by omega)
      · refine Or.inr ⟨by omega, by rw [List.length_cons]; omega, off, t2, ?_, a4, a5⟩
        rw [show (x.toInt - lo).toNat = (x.toInt - (lo + 1)).toNat + 1 by omega, List.getElem?_cons_succ]
        exact a3
theorem ok_lookup {mt : Nat → pM} {law : Nat} {M : pM} {il : Bool} {sc : List Int32} {pc : Nat} {dflt : Int} {ps : Array (Int × Int)} {len d : Nat} {ts : List (Int32 × Nat)} (hd : decode M.2.1 pc = .ok (.lookupswitch dflt ps, len)) (hp : (ps.toList.zip (ps.toList.drop 1)).all (fun (a, next) => a.1 < next.1) = true) (h1 : (pc : Int) + dflt = (d : Int)) (h2 : ps.toList.map (fun q => (q.1, (pc : Int) + q.2)) = ts.map (fun q => (q.1.toInt, (q.2 : Int)))) : pOk mt law M il sc pc (oSw ts d) := by
  intro l D cI cO adK adV b B id ls st h Q hM hL hop p e R s m args below meth c H locs cells slots mc ms Z A as0 bs ws cls cst hC hX hw hP hD hS hl hst hB hF
  subst hM
  obtain ⟨v, r, rfl, h3⟩ := pPop_inv hop
  obtain ⟨x, rfl, h4⟩ := pI_inv h3
  obtain ⟨c1, rfl, hst1⟩ := sI hst
  obtain ⟨t, h5, h6⟩ := pSw_lookup h1 ps.toList ts h2 h4
  refine lv_lookup hC.1 hC.2.1 hd hp rfl h5 ?_
  exact h6 p e R s m args below meth c H locs cells slots mc ms Z A as0 bs ws cls _ hC hX hw hP hD hS hl hst1 hB hF
theorem ok_table {mt : Nat → pM} {law : Nat} {M : pM} {il : Bool} {sc : List Int32} {pc : Nat} {dflt lo hi : Int} {offs : Array Int} {len d : Nat} {ts : List (Int32 × Nat)} (hd : decode M.2.1 pc = .ok (.tableswitch dflt lo hi offs, len)) (h1 : (pc : Int) + dflt = (d : Int)) (h2 : ts.map (fun q => (q.2 : Int)) = offs.toList.map (fun o => (pc : Int) + o)) (h0 : hi + 1 = lo + offs.toList.length) (hk : ts.zipIdx.all (fun q => q.1.1.toInt == lo + q.2) = true) : pOk mt law M il sc pc (oSw ts d) := by
  intro l D cI cO adK adV b B id ls st h Q hM hL hop p e R s m args below meth c H locs cells slots mc ms Z A as0 bs ws cls cst hC hX hw hP hD hS hl hst hB hF
  subst hM
  obtain ⟨v, r, rfl, h3⟩ := pPop_inv hop
  obtain ⟨x, rfl, h4⟩ := pI_inv h3
  obtain ⟨c1, rfl, hst1⟩ := sI hst
  have hk2 : ∀ (i : Nat) (q : Int32 × Nat), ts[i]? = some q → q.1.toInt = lo + i := by
    intro i q hi
    have := List.all_eq_true.mp hk (q, i) (List.mk_mem_zipIdx_iff_getElem?.mpr hi)
    exact beq_iff_eq.mp this
  rcases pSw_table offs.toList ts lo h2 hk2 h4 with ⟨a1, a2⟩ | ⟨a1, a2, off, t, a3, a4, a5⟩
  · refine lv_tableOut hC.1 hC.2.1 hd (by rcases a1 with a | a; exact Or.inl a; exact Or.inr (by omega)) h1 ?_
    exact a2 p e R s m args below meth c H locs cells slots mc ms Z A as0 bs ws cls _ hC hX hw hP hD hS hl hst1 hB hF
  · refine lv_tableIn hC.1 hC.2.1 hd a1 (by omega) (by rw [← Array.getElem?_toList]; exact a3) a4 ?_
    exact a5 p e R s m args below meth c H locs cells slots mc ms Z A as0 bs ws cls _ hC hX hw hP hD hS hl hst1 hB hF
/-- where the words of a class lie -/
def pFld (M : pM) (ci k i : Nat) : Prop := ∃ (C : String) (T : u_T) (N : Nat) (ref : String), clsP[ci]? = some (C, T, N) ∧ (∀ w ∈ u_ws C T N, w ∈ lw_good) ∧ k < N ∧ (∀ k, k < N → parseFieldDescriptor (T k).2.2.1 = some (tyP ci k)) ∧ (∀ a, a < N → ∀ b, b < N → a ≠ b → (T a).2.1 ≠ (T b).2.1) ∧ Cond.fieldLink M.1.cls i ref (T k).2.1 (T k).2.2.1 ∈ lw_good ∧ (T k).1 = ref ∧ (T k).2.2.2 = false
def pFldF (M : pM) (ci k i : Nat) : Prop := ∃ (C : String) (T : u_T) (N : Nat) (ref : String), clsP[ci]? = some (C, T, N) ∧ (∀ w ∈ u_ws C T N, w ∈ lw_good) ∧ k < N ∧ (∀ k, k < N → parseFieldDescriptor (T k).2.2.1 = some (tyP ci k)) ∧ (∀ a, a < N → ∀ b, b < N → a ≠ b → (T a).2.1 ≠ (T b).2.1) ∧ Cond.fieldLink M.1.cls i ref (T k).2.1 (T k).2.2.1 ∈ lw_good ∧ (T k).1 = ref ∧ (T k).2.2.2 = true
theorem tc_obj {cI cO : ClassId} {sa : Nat → Option Nat} {as : List Nat} {ci : Nat} {fs : List Value} {e : va_E} {r : vw_C} (hc : clsP[ci]? = some r) (h : tc cI cO sa as (.inr (ci, fs)) e) : ∃ gs : List Value, e = .inr (ci, gs) ∧ fs.map (tv sa as) = gs.map some := by
  have h50 : ¬ ci = 50 := fun q => by subst q; cases hc
  simp only [tc] at h
  rw [if_neg h50] at h
  exact h
theorem tc_obj' {cI cO : ClassId} {sa : Nat → Option Nat} {as : List Nat} {ci : Nat} {fs gs : List Value} {r : vw_C} (hc : clsP[ci]? = some r) (h : fs.map (tv sa as) = gs.map some) : tc cI cO sa as (.inr (ci, fs)) (.inr (ci, gs)) := by
  have h50 : ¬ ci = 50 := fun q => by subst q; cases hc
  simp only [tc]
  rw [if_neg h50]
  exact ⟨gs, rfl, h⟩
theorem map_set_some {f : Value → Option Value} {fs gs : List Value} (h : fs.map f = gs.map some) {k : Nat} {v w : Value} (hv : f v = some w) : (fs.set k v).map f = (gs.set k w).map some := by
  rw [List.map_set, List.map_set, h, hv]
theorem map_len {f : Value → Option Value} {fs gs : List Value} (h : fs.map f = gs.map some) : fs.length = gs.length := by
  have := congrArg List.length h
  simpa using this
theorem ok_getfield {mt : Nat → pM} {law : Nat} {M : pM} {il : Bool} {sc : List Int32} {pc ci k i : Nat} (hd : decode M.2.1 pc = .ok (.getfield i, 3)) (hf : pFld M ci k i ∨ pFldF M ci k i) : pOk mt law M il sc pc (oGet ci k (pc + 3)) := by
  intro l D cI cO adK adV b B id ls st h Q hM hL hop p e R s m args below meth c H locs cells slots mc ms Z A as0 bs ws cls cst hC hX hw hP hD hS hl hst hB hF
  subst hM
  obtain ⟨v, r, rfl, h1⟩ := pPop_inv hop
  obtain ⟨q, rfl, h2⟩ := pR_inv h1
  obtain ⟨fs, h3, h4⟩ := pOb_inv h2
  obtain ⟨v, h5, h6⟩ := pSome_inv h4
  obtain ⟨a, c1, ha, rfl, hst1⟩ := sR hst
  obtain ⟨a', e', ha', hws, htc⟩ := hw.2.2 q _ h3
  rw [ha] at ha'
  cases ha'
  have hh : ∃ (C : String) (T : u_T) (N : Nat) (ref : String), clsP[ci]? = some (C, T, N) ∧ (∀ w ∈ u_ws C T N, w ∈ lw_good) ∧ k < N ∧ Cond.fieldLink (mt id).1.cls i ref (T k).2.1 (T k).2.2.1 ∈ lw_good ∧ (T k).1 = ref := by
    rcases hf with ⟨C, T, N, ref, q1, q2, q3, -, -, q4, q5, -⟩ | ⟨C, T, N, ref, q1, q2, q3, -, -, q4, q5, -⟩
    · exact ⟨C, T, N, ref, q1, q2, q3, q4, q5⟩
    · exact ⟨C, T, N, ref, q1, q2, q3, q4, q5⟩
  obtain ⟨C, T, N, ref, q1, q2, q3, q4, rfl⟩ := hh
  obtain ⟨gs, rfl, hgs⟩ := tc_obj q1 htc
  obtain ⟨w, g1, g2⟩ := pg_map hgs h5
  refine va_get (D := D) (ci := ci) (v := w) (C := C) (T := T) (N := N) hC.1 hC.2.1 hC.2.2.2.2.1 q2 hC.2.2.2.1 hC.2.2.2.2.2.1 hP q hws q1 k q3 (hC.2.2.2.2.1 _ q4) (fun _ h9 => h9) (by rw [← pg_eq]; exact g1) hd ?_
  exact h6 p e R s m args below meth c H locs cells slots mc ms Z A as0 bs ws cls _ hC hX hw hP hD hS hl (sC g2 hst1) hB hF
/-- a store, once the value's kind is known -/
theorem put_core {mt : Nat → pM} {law : Nat} {sc : List Int32} {pc ci k i : Nat} {l : Launch} {D : va_G} {cI cO : ClassId} {adK adV : Nat → Nat} {b : Nat} {B : pB} {id : Nat} {ls : pL} {st : List Value} {h : pH} {Q : pQ} {v : Value} {q : Nat} {fs : List Value} (hd : decode (mt id).2.1 pc = .ok (.putfield i, 3)) (hf : pFld (mt id) ci k i ∨ (pFldF (mt id) ci k i ∧ (mt id).1.name = "<init>" ∧ ∀ r, clsP[ci]? = some r → (r.2.1 k).1 = (mt id).1.cls)) (hn : ∀ w, tv (pSa adK b) [] v = some w ∨ (∃ j, v = .ref j ∧ ∃ a, w = .ref a) → narrow (tyP ci k) w = w ∧ fits (tyP ci k) w = true)
    (h3 : pg h q = some (.inr (ci, fs))) (hk : k + 1 ≤ fs.length) (hop : pSnd mt law l D cI cO adK adV b sc B id (pc + 3) ls st (h.set q (.inr (ci, fs.set k v))) Q) : pSnd mt law l D cI cO adK adV b sc B id pc ls (v :: .ref q :: st) h Q := by
  intro p e R s m args below meth c H locs cells slots mc ms Z A as0 bs ws cls cst hC hX hw hP hD hS hl hst hB hF
  obtain ⟨w, c0, rfl, hv, hst0⟩ := sV hst
  obtain ⟨a, c1, ha, rfl, hst1⟩ := sR hst0
  obtain ⟨a', e', ha', hws, htc⟩ := hw.2.2 q _ h3
  rw [ha] at ha'
  cases ha'
  have hn2 : narrow (tyP ci k) w = w ∧ fits (tyP ci k) w = true := by
    apply hn
    cases v with
    | ref j =>
      simp only [tv, Option.map_eq_some_iff] at hv
      obtain ⟨a2, -, hv⟩ := hv
      exact Or.inr ⟨j, rfl, a2, hv.symm⟩
    | retAddr j => exact Or.inl hv
    | _ => exact Or.inl hv
  rcases hf with ⟨C, T, N, ref, q1, q2, q3, q4, q5, q6, rfl, q7⟩ | ⟨⟨C, T, N, ref, q1, q2, q3, q4, q5, q6, rfl, q7⟩, q8, q9⟩
  · obtain ⟨gs, rfl, hgs⟩ := tc_obj q1 htc
    refine va_put (D := D) (ci := ci) (v := w) (ty := tyP ci k) (C := C) (T := T) (N := N) hC.1 hC.2.1 hC.2.2.2.2.1 q2 (tyP ci) q4 q5 hC.2.2.2.1 hC.2.2.2.2.2.1 hP hD hS q hws q1 k q3 (hC.2.2.2.2.1 _ q6) (fun _ h9 => h9) q7 (q4 k q3) hn2.1 hn2.2 (by rw [← map_len hgs]; omega) hd (fun H1 locs1 hP1 hD1 hS1 => ?_)
    exact hop p e R s m args below meth c H1 locs1 cells slots mc ms Z A as0 bs _ cls _ hC hX (hw.set (pg_lt h3) ha (tc_obj' q1 (map_set_some hgs hv))) hP1 hD1 hS1 hl hst1 hB hF
  · obtain ⟨gs, rfl, hgs⟩ := tc_obj q1 htc
    refine va_putF (D := D) (ci := ci) (v := w) (ty := tyP ci k) (C := C) (T := T) (N := N) hC.1 hC.2.1 hC.2.2.2.2.1 q2 (tyP ci) q4 q5 hC.2.2.2.1 hC.2.2.2.2.2.1 hP hD hS q hws q1 k q3 (hC.2.2.2.2.1 _ q6) (fun _ h9 => h9) q7 (hC.2.2.2.2.2.2.1.trans q8) (q9 _ q1) (q4 k q3) hn2.1 hn2.2 (by rw [← map_len hgs]; omega) hd (fun H1 locs1 hP1 hD1 hS1 => ?_)
    exact hop p e R s m args below meth c H1 locs1 cells slots mc ms Z A as0 bs _ cls _ hC hX (hw.set (pg_lt h3) ha (tc_obj' q1 (map_set_some hgs hv))) hP1 hD1 hS1 hl hst1 hB hF
