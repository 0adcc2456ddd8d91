/-! THE CLAIM OUT OF ONE WALK OF THE LAW'S BODY. Your part is whole_start (and what it stands on); all else here is the same for every law, but numbers. -/
def R_law : String := "FlexTermsLaw"
def lw_P (b : Addr) (xs : List Int32) (args : Array Value) (s : State) : Prop := args = #[.ref b] ∧ s.IntsAt b xs ∧ xs.length ≤ 2560 ∧ (Jvm.Cond.and given_1 narrow_1).before args s = true
def lw_Q (_ : Array Value) (s : State) (o : Outcome) (t : State) : Prop := o = .returned (some (.int 1)) ∧ Framed s o t [] 600000 7302250
def lw_Z (below : List Frame) (a : Array Value) (s : State) : State → Prop := fun t => ∃ o, t.status = .running ∧ Ended t below o ∧ lw_Q a s o t
/-- the law's own end, with 1 on the stack, nothing written that was there before, its room as the claim has it -/
theorem lw_ret {p : Program} {l : Launch} {e : Env} {s : State} {m : MethodId} {below : List Frame} {meth : Method} {c : Code} {b : Nat} (hx : p.tables.exec = Jvm.exec) (hb : c.code = code) (hr : meth.sig.returnType = ret) (hlocks : meth.locks = false) {pc : Nat} {H : Heap} {ls : Array Slot} (hdg : decode code pc = .ok (.ireturn, 1)) : W p l e room_1 s m #[Value.ref b] below meth c H [] 600000 7302250 (lw_Z below #[Value.ref b] s) (F0 m pc ls [.int 1]) := by
  intro T hT X
  obtain ⟨fs, hret, hrun, hended, hW, hframe⟩ := X.leave (v := some (.int 1)) (hlocks := hlocks) (fun h => by rw [hr] at h; cases h)
  have hmeth' : T.vm.method? m = some meth := X.method'
  refine ⟨T.setFrames fs, ?_, .returned (some (.int 1)), hrun, hended, rfl, ⟨_, rfl⟩, hW, hframe⟩
  jvm_step X.here [X.here.top, hx, hb, hdg, hmeth', hr, ret, narrow_b1]
  (try refine ⟨rfl, ?_⟩); (try refine ⟨rfl, ?_⟩)
  first | (intro acts; rw [hret _ acts rfl rfl rfl]) | rw [hret _ _ rfl rfl rfl]
  exact Steps.refl _
/-- what holds at the law's entry: the machine, the code, the tables' words (any of lw_tbl by 'hts w (by decide +kernel)'), the script of L ints xs at the cell b, what the Statement gives of the start (any of its parts by flat_of_before) -/
def lw_At (p : Program) (s : State) (m : MethodId) (meth : Method) (c : Code) (b L : Nat) (xs : Nat → Int32) : Prop :=
  meth.name = x.name ∧ p.tables.exec = Jvm.exec ∧ c.code = code ∧ meth.sig.returnType = ret ∧ c.maxLocals = 4 ∧ s.vm.findClass R_law = some m.cls ∧ (∀ w ∈ lw_tbl, w.before #[Value.ref b] s = true) ∧ va_X b L xs s s.heap ∧ b < s.heap.size ∧ meth.locks = false ∧ (Jvm.Cond.and given_1 narrow_1).before #[Value.ref b] s = true
theorem lw_ks {s : State} {args : Array Value} (h : ∀ w ∈ lw_good, w.before args s = true) : ∃ D : va_G, ∀ (k : Nat) (q : vw_C), clsP[k]? = some q → u_Kn s q.1 q.2.1 q.2.2 (D.1 k) (D.2 k) := by
  have hall : ∀ k : Nat, ∃ d : ClassId × (Nat → Nat), ∀ q, clsP[k]? = some q → u_Kn s q.1 q.2.1 q.2.2 d.1 d.2 := by
    intro k
    match k with
    | 0 => obtain ⟨c, i, g⟩ := u_known h in_X0 (h _ wd_377); exact ⟨(c, i), fun q hq => by cases hq; exact g⟩
    | 1 => obtain ⟨c, i, g⟩ := u_known h in_X1 (h _ wd_102); exact ⟨(c, i), fun q hq => by cases hq; exact g⟩
    | 2 => obtain ⟨c, i, g⟩ := u_known h in_X2 (h _ wd_157); exact ⟨(c, i), fun q hq => by cases hq; exact g⟩
    | 3 => obtain ⟨c, i, g⟩ := u_known h in_X3 (h _ wd_383); exact ⟨(c, i), fun q hq => by cases hq; exact g⟩
    | 4 => obtain ⟨c, i, g⟩ := u_known h in_X4 (h _ wd_364); exact ⟨(c, i), fun q hq => by cases hq; exact g⟩
    | 5 => obtain ⟨c, i, g⟩ := u_known h in_X0 (h _ wd_377); exact ⟨(c, i), fun q hq => by cases hq; exact g⟩
    | 6 => obtain ⟨c, i, g⟩ := u_known h in_X6 (h _ wd_371); exact ⟨(c, i), fun q hq => by cases hq; exact g⟩
    | 7 => obtain ⟨c, i, g⟩ := u_known h in_X7 (h _ wd_389); exact ⟨(c, i), fun q hq => by cases hq; exact g⟩
    | 8 => obtain ⟨c, i, g⟩ := u_known h in_X8 (h _ wd_356); exact ⟨(c, i), fun q hq => by cases hq; exact g⟩
    | 9 => obtain ⟨c, i, g⟩ := u_known h in_X9 (h _ wd_395); exact ⟨(c, i), fun q hq => by cases hq; exact g⟩
    | 10 => obtain ⟨c, i, g⟩ := u_known h in_X10 (h _ wd_789); exact ⟨(c, i), fun q hq => by cases hq; exact g⟩
    | 11 => obtain ⟨c, i, g⟩ := u_known h in_X11 (h _ wd_794); exact ⟨(c, i), fun q hq => by cases hq; exact g⟩
    | k + 12 => exact ⟨(0, fun _ => 0), fun q hq => by simp [clsP] at hq⟩
  obtain ⟨d, hd⟩ := Classical.axiomOfChoice hall
  exact ⟨(fun k => (d k).1, fun k => (d k).2), hd⟩
theorem lw_arrI {s : State} {args : Array Value} (h : (Cond.arrayClass .int).before args s = true) : ∃ cI : ClassId, ArrOfT s cI .int ∧ va_RA s cI .int := by
  obtain ⟨c, k, comp, h1, h2, h3⟩ := Cond.arrayClass_spec h
  exact ⟨c, fun n z => ⟨(fun _ h => by cases h), k, h2, comp, h3⟩, h1⟩
theorem lw_arrO {s : State} {args : Array Value} {C : String} (h : (Cond.arrayOver (.object C)).before args s = true) : ∃ cO : ClassId, ArrOfT s cO (.object C) ∧ va_RA s cO (.object C) := by
  obtain ⟨comp, c, k, h1, -, h3, h4, h5⟩ := Cond.arrayOver_spec h
  exact ⟨c, fun n z => ⟨(fun _ h => by cases h), k, h3, comp, h4⟩, k, comp, h3, h4, h1, h5⟩
def lw_tm : Nat → Term
  | 0 => .string RX0 28
  | 1 => .string RX1 28
  | 2 => .string RX1 40
  | 3 => .string RX1 42
  | _ => .string RX1 44
theorem lw_five {P : Nat → Prop} (h0 : P 0) (h1 : P 1) (h2 : P 2) (h3 : P 3) (h4 : P 4) : ∀ i, i < 5 → P i := by
  intro i hi
  match i, hi with
  | 0, _ => exact h0
  | 1, _ => exact h1
  | 2, _ => exact h2
  | 3, _ => exact h3
  | 4, _ => exact h4
theorem lw_texts {s : State} {b : Nat} (h : (Jvm.Cond.and given_1 narrow_1).before #[Value.ref b] s = true) : ∃ adK adV : Nat → Nat, vk_S 5 [6, 1, 1, 2, 3] pTx adK adV (fun q => s.heap.size ≤ q) s s.heap ∧ ∀ i : Nat, i < 5 → (lw_tm i).eval #[Value.ref b] s none [] s = some (.ref (adK i)) := by
  have hs := flat_of_before _ h
  refine vk_Sof (tm := lw_tm) ?_ ?_ ?_ ?_ ?_ ?_ ?_ (fun a h1 h2 => absurd h1 (Nat.not_lt.mpr h2))
  · exact lw_five (by decide) (by decide) (by decide) (by decide) (by decide)
  · exact lw_five (hs _ (by decide +kernel)) (hs _ (by decide +kernel)) (hs _ (by decide +kernel)) (hs _ (by decide +kernel)) (hs _ (by decide +kernel))
  · exact lw_five (hs _ (by decide +kernel)) (hs _ (by decide +kernel)) (hs _ (by decide +kernel)) (hs _ (by decide +kernel)) (hs _ (by decide +kernel))
  · exact lw_five (hs _ (by decide +kernel)) (hs _ (by decide +kernel)) (hs _ (by decide +kernel)) (hs _ (by decide +kernel)) (hs _ (by decide +kernel))
  · exact lw_five (hs _ (by decide +kernel)) (hs _ (by decide +kernel)) (hs _ (by decide +kernel)) (hs _ (by decide +kernel)) (hs _ (by decide +kernel))
  · refine lw_five ?_ ?_ ?_ ?_ ?_
    · intro j hj
      have hj : j < 6 := hj
      rcases (show j = 0 ∨ j = 1 ∨ j = 2 ∨ j = 3 ∨ j = 4 ∨ j = 5 by omega) with rfl | rfl | rfl | rfl | rfl | rfl <;> exact hs _ (by decide +kernel)
    · intro j hj
      have hj : j < 1 := hj
      rcases (show j = 0 by omega) with rfl
      exact hs _ (by decide +kernel)
    · intro j hj
      have hj : j < 1 := hj
      rcases (show j = 0 by omega) with rfl
      exact hs _ (by decide +kernel)
    · intro j hj
      have hj : j < 2 := hj
      rcases (show j = 0 ∨ j = 1 by omega) with rfl | rfl <;> exact hs _ (by decide +kernel)
    · intro j hj
      have hj : j < 3 := hj
      rcases (show j = 0 ∨ j = 1 ∨ j = 2 by omega) with rfl | rfl | rfl <;> exact hs _ (by decide +kernel)
  · have key : ∀ i : Nat, i < 5 → ∀ j : Nat, j < 5 → i ≠ j → (Cond.not (Cond.eq (lw_tm i) (lw_tm j))).before #[Value.ref b] s = true ∨ (Cond.not (Cond.eq (lw_tm j) (lw_tm i))).before #[Value.ref b] s = true := by
      refine lw_five ?_ ?_ ?_ ?_ ?_ <;> refine lw_five ?_ ?_ ?_ ?_ ?_ <;> first | exact fun q => absurd rfl q | exact fun _ => Or.inl (hs _ (by decide +kernel)) | exact fun _ => Or.inr (hs _ (by decide +kernel))
    exact fun i j hi hj => key i hi j hj
/-- from the entry, for every script of at most 2560 ints, the law comes to its end with true -/
theorem whole_start {p : Program} {e : Env} {s : State} {m : MethodId} {below : List Frame} {meth : Method} {c : Code} (l : Launch) (hflags : l.flags = flags0) {b L : Nat} {xs : Nat → Int32} (hL : L ≤ 2560) (C0 : lw_At p s m meth c b L xs) : W p l e room_1 s m #[Value.ref b] below meth c s.heap [] 0 0 (lw_Z below #[Value.ref b] s) (entryFrame m ([Value.ref b] : List Value).toArray 4) := by
  obtain ⟨hnm, hx, hb, hr, hml, hown, hts, hX, hbl, hlocks, hgv⟩ := C0
  have hgd : ∀ w ∈ lw_good, w.before #[Value.ref b] s = true := fun w hw => hts w (List.mem_filter.mp hw).1
  obtain ⟨D, hKc⟩ := lw_ks hgd
  obtain ⟨cI, hI⟩ := lw_arrI (hgd _ wd_3)
  have hao : (Cond.arrayOver (.object RX2)).before #[Value.ref b] s = true := hts _ (by decide +kernel)
  obtain ⟨cO, hO⟩ := lw_arrO hao
  obtain ⟨adK, adV, hS, had⟩ := lw_texts hgv
  have hK : va_K D clsP (pTys cI cO) s := ⟨hKc, fun k q hq => by
    match k, hq with
    | 0, hq => cases hq; exact hI
    | 1, hq => cases hq; exact hO
    | k + 2, hq => simp [pTys] at hq⟩
  have hn : pNest s := by
    refine ⟨?_, va_AO.of hao, va_Nw.of rfl (hts (.castable "[I" "java/lang/Cloneable") (by decide +kernel))⟩
    exact List.forall_mem_cons.mpr ⟨hts (.methodLinkNest RX10 18 yX2_init RX10) (by decide +kernel), List.forall_mem_cons.mpr ⟨hts (.methodLinkNest RX10 67 yX9_init RX10) (by decide +kernel), List.forall_mem_cons.mpr ⟨hts (.methodLinkNest RX10 9 yX8_init RX10) (by decide +kernel), List.forall_mem_cons.mpr ⟨hts (.methodLinkNest RX2 40 yX10_isSide RX10) (by decide +kernel), List.forall_mem_cons.mpr ⟨hts (.methodLinkNest RX4 15 yX2_init RX10) (by decide +kernel), fun _ h => absurd h List.not_mem_nil⟩⟩⟩⟩⟩
  have hE : pExt adK adV (fun q => s.heap.size ≤ q) s := ⟨hn, ⟨vk_R.of (hts _ (by decide +kernel)) (had 0 (by decide)), vk_R.of (hts _ (by decide +kernel)) (had 1 (by decide)), vk_R.of (hts _ (by decide +kernel)) (had 2 (by decide)), vk_R.of (hts _ (by decide +kernel)) (had 3 (by decide)), vk_R.of (hts _ (by decide +kernel)) (had 4 (by decide))⟩, hS, va_Zof (hts _ (by decide +kernel)) (hts _ (by decide +kernel)) (va_eqi (flat_of_before _ hgv _ (by decide +kernel))) (fun a h1 h2 => absurd h1 (Nat.not_lt.mpr h2)), va_Zqof (hts _ (by decide +kernel)) (hts _ (by decide +kernel)) (flat_of_before _ hgv _ (by decide +kernel)) (fun a h1 h2 => absurd h1 (Nat.not_lt.mpr h2))⟩
  have hlen : ((List.range L).map xs).length = L := by rw [List.length_map, List.length_range]
  have hX' : va_X b ((List.range L).map xs).length (fun j => ((List.range L).map xs).getD j 0) s s.heap := by
    obtain ⟨scr, g1, g2, g3, g4, g5⟩ := hX
    refine ⟨scr, g1, g2, g3, by rw [g4, hlen], fun j hj => ?_⟩
    have hj' : j < L := by rw [hlen] at hj; exact hj
    rw [g5 j hj']
    simp [hj']
  have hpure := law_pure (cl_snd l D cI cO adK adV b ((List.range L).map xs)) (by rw [hlen]; exact hL)
  rw [lg_entry_eq]
  have hlR : lR (pSa adK b) ([] ++ []) (pEntry [.retAddr 7] 4) 4 ((lg_sl [.ref b] ++ List.replicate (4 - (lg_sl [.ref b]).length) Slot.unset).toArray) := pEntry_lR (by rfl) (fun v hv x => by simp at hv; rw [hv]; exact fun h => by cases h) (by decide)
  refine hpure p e room_1 s m #[Value.ref b] below meth c s.heap [] 0 0 600000 7302250 _ (fun q => s.heap.size ≤ q) [] [] [] _ [] ⟨hx, hb, hml, hown, hgd, hK, hnm, hr, hlocks, hE, fun _ h => h⟩ (fun _ => ⟨hX', hbl, Nat.not_le.mpr hbl⟩) ⟨rfl, rfl, fun i c h => by cases i <;> cases h⟩ (fun k q h => by simp at h) ⟨fun i j p q h => by simp at h, fun k q h => by simp at h⟩ va_S.rf hlR rfl ⟨by decide, by decide, by decide, by decide, by decide, by decide⟩ ?_
  intro r h' bs ws H locs cells slots cls pc hq hrt hw' hP' hD' hS' hk hz
  subst hq
  refine W.widen (k := 600000) (n := 7302250) hk hz ?_
  refine va_forget (fun q hq => hS'.2.2 q hq) ?_
  rcases hrt with ⟨hd1, hr1, h0⟩ | ⟨hd1, ty, x, hr1, hnr, h0⟩ | ⟨hd1, hr1, x, h0⟩
  · cases h0
  · exact lw_ret hx hb hr hlocks hd1
  · cases h0
set_option maxHeartbeats 4000000 in
theorem lw_walk (l : Launch) (hflags : l.flags = flags0) (b : Addr) (xs : List Int32) : MetFree l x (headSpec (Jvm.Cond.code x code maxLocals ret :: tables_1) room_1) (lw_P b xs) (fun _ _ _ _ _ => True) lw_Q := by
  refine MetFree.of_bodyS (code := code) (maxLocals := maxLocals) (ret := ret) (by decide) ?_ ?_
  · intro args s m h hn
    obtain ⟨meth, c, h1, h2, h3, h4, h5, h6, -, -⟩ := Cond.code_spec hn (atoms_spec (ws := Jvm.Cond.code x code maxLocals ret :: tables_1) h _ List.mem_cons_self)
    exact ⟨meth, c, h1, h2, h3, h4, h5, h6⟩
  · intro p e s m args below meth c s₁ B hml0 hP _
    obtain ⟨rfl, hx, hbd, hgv⟩ := hP
    obtain ⟨scr, harrAt, hlist, hof, hsmall⟩ := hx
    obtain ⟨hcb, hkn, -, -⟩ := State.arrayAt?_spec harrAt
    have hown : s.vm.findClass R_law = some m.cls := findClass_of_methodNamed B.named
    have hts0 : ∀ c ∈ (Jvm.Cond.code x code maxLocals ret :: tables_1), c.before #[Value.ref b] s = true := atoms_spec (ws := Jvm.Cond.code x code maxLocals ret :: tables_1) B.pre
    have hts : ∀ w ∈ lw_tbl, w.before #[Value.ref b] s = true := k2_hts_sels lw_privs (fun w hw => hts0 w (List.mem_cons_of_mem _ hw)) lw_privs_ok
    have hml : c.maxLocals = 4 := B.maxLocals_eq (hts0 _ List.mem_cons_self)
    have X₀ : Stand p l e room_1 s m #[Value.ref b] below meth c s₁ [] 0 0 := Stand.of_body B
    have hh0 : s₁.heap = s.heap := by rw [B.state]; rfl
    have hsz : scr.slots.size = xs.length := by rw [← Array.length_toList, hlist, List.length_map]
    have hval : ∀ j : Nat, j < xs.length → scr.slots[j]? = some (.int (xs.getD j 0)) := fun j hj => by
      rw [← Array.getElem?_toList, hlist]
      simp [hj]
    have hbl : b < s.heap.size := (Array.getElem?_eq_some_iff.mp hcb).1
    have hX : va_X b xs.length (fun j => xs.getD j 0) s s.heap := ⟨scr, hcb, hof, hkn, hsz, hval⟩
    have K : W p l e room_1 s m #[Value.ref b] below meth c s₁.heap [] 0 0 (lw_Z below #[Value.ref b] s) (entryFrame m ([Value.ref b] : List Value).toArray 4) := by
      rw [hh0]
      exact whole_start l hflags hbd ⟨(name_of_methodNamed B.named B.method).1, B.exec, B.bytes, B.returns, hml, hown, hts, hX, hbl, B.notSynchronized, hgv⟩
    obtain ⟨t, a1, o, b1, b2, b3⟩ := K s₁ rfl X₀
    exact ⟨t, o, a1, b1, b2, b3⟩
theorem lw_pre_spec {args : Array Value} {s : State} (h : (Jvm.Cond.and given_1 narrow_1).before args s = true) (hr : rest_1_c.before args s = true) : ∃ (b : Addr) (xs : List Int32), lw_P b xs args s := by
  have hs := flat_of_before _ h
  have hq := flat_of_before _ hr
  have hc : (Cond.count 1).before args s = true := hs _ (by decide +kernel)
  have harr : (Cond.arrayOf (.arg 0) .int).before args s = true := hs _ (by decide +kernel)
  have hle : (Cond.le (.length (.arg 0)) (.int 2560)).before args s = true := hs _ (by decide +kernel)
  have hlen : (Cond.isInt (.length (.arg 0))).before args s = true := hq _ (by decide +kernel)
  have hall : (Cond.all (.arg 0) (.isInt (.elem (.arg 0) (.index 0)))).before args s = true := hq _ (by decide +kernel)
  obtain ⟨b, xs, hb, hx⟩ := State.ints_of_pre rfl harr hlen hall
  have hsm : xs.length < 2 ^ 31 := hx.choose_spec.2.2.2
  have hev : (Term.length (.arg 0)).eval args s none [] s = some (.int xs.length.toInt32) := hx.length_eval hb
  have hv := Cond.le_ints hev (show (Term.int 2560).eval args s none [] s = some (.int 2560) from rfl)
  have hd : xs.length.toInt32 ≤ 2560 := by
    simpa [Cond.before, Cond.holds, hv] using hle
  have hN : xs.length ≤ 2560 := (Int32.ofNat_le_ofNat hsm (by decide)).mp (show Int32.ofNat xs.length ≤ Int32.ofNat 2560 from hd)
  exact ⟨b, xs, Cond.one_arg hc (show args[0]? = some (.ref b) from hb), hx, hN, h⟩
theorem lw_comes (l : Launch) (hflags : l.flags = flags0) : Comes l x (Jvm.Cond.code x code maxLocals ret :: tables_1) room_1 (fun tb e args s => Calls_1 tb e args s ∧ rest_1 tb e args s ∧ Pre_1 tb e args s)
    (fun _ _ args s o t => lw_Q args s o t) := by
  intro p e ha hc hk s m args below hf hfit hheap happ hpre
  obtain ⟨b, xs, hP⟩ := lw_pre_spec hpre.2.2 hpre.2.1
  obtain ⟨k, o, h1, h2, h3, hQ⟩ := lw_walk l hflags b xs p e ha hc hk s m args below hf ((Spec.applies_iff_loose hf).mp happ).1 hP trivial
  exact ⟨k, o, h1, h2, h3, hQ⟩
theorem lw_frame {s t : State} {o : Outcome} {args : Array Value} (h : Framed s o t [] 600000 7302250) :
    Framed s o t (fieldLocs frame_1_writes args s ++ arrayLocs frame_1_arrays args s ++ staticLocs frame_1_statics s) 600000 7302250 := h
theorem lw_limb (L : Cond) (hL : ∀ (args : Array Value) (s t : State), L.after args s (.returned (some (.int 1))) t = true) :
    ArmFor flags0 classFile x code maxLocals ret World_1 tables_1 room_1 Calls_1 rest_1 Pre_1
      (fun tb e a s o t => postC L tb e a s o t ∧ Framed s o t (fieldLocs frame_1_writes a s ++ arrayLocs frame_1_arrays a s ++ staticLocs frame_1_statics s) 600000 7302250) := by
  intro l hflags _ _ p e ha hc hk s m args below hf hfit hheap happ hpre
  obtain ⟨k, o, h1, h2, h3, rfl, hF⟩ := lw_comes l hflags p e ha hc hk s m args below hf hfit hheap happ hpre
  exact ⟨k, _, h1, h2, h3, hL args s _, lw_frame hF⟩
theorem i_vc : Claimed_1_1 ∧ Claimed_1_2 := ⟨lw_limb limb_1_1 (fun args s t => by simp [limb_1_1, Cond.after, Cond.holds, Cond.value]), lw_limb limb_1_2 (fun args s t => Cond.after_iff.mpr (by
  first | (rw [show limb_1_2 = Cond.eq .result (.int 1) from rfl, Cond.eq_ints (x := 1) (y := 1) rfl rfl]; simp; done) | (simp [limb_1_2, Cond.value, Term.eval]; done)))⟩
