/-! The five kinds of calls. -/
theorem gi_code {Mc : pM} (hl5 : Cond.code Mc.1 Mc.2.1 Mc.2.2.1 Mc.2.2.2 ∈ lw_good) : GoodIn lw_good (Cond.code Mc.1 Mc.2.1 Mc.2.2.1 Mc.2.2.2 :: lw_good) := good_in (fun w hw => by rcases List.mem_cons.mp hw with rfl | hw; exact hl5; exact hw)
theorem snoc_of {α : Type} {l : List α} {n : Nat} (h : l.length = n + 1) : ∃ a r, l = a :: r ∧ r.length = n := by
  cases l with
  | nil => cases h
  | cons a r => exact ⟨a, r, rfl, by simpa using h⟩
theorem ok_callV {mt : Nat → pM} {law : Nat} {M : pM} {il : Bool} {sc : List Int32} {pc : Nat} {cid ci na i N : Nat} {C : String} {T : u_T} {Mc : pM} (hd : decode M.2.1 pc = .ok (.invokevirtual i, 3)) (hMc : mt cid = Mc) (hlaw : cid ≠ law) (hy : plainName Mc.1.cls = true) (hC0 : clsP[ci]? = some (C, T, N)) (hcl : Mc.1.cls = C) (hl1 : Cond.methodLink M.1.cls i Mc.1 ∈ lw_good) (hl2 : Cond.instanceMethod Mc.1 ∈ lw_good) (hl3 : Cond.selects C Mc.1 Mc.1 ∈ lw_good) (hl4 : Cond.initialized C ∈ lw_good) (hl5 : Cond.code Mc.1 Mc.2.1 Mc.2.2.1 Mc.2.2.2 ∈ lw_good) (hdd : Mc.1.cls ≠ "java/lang/invoke/MethodHandle" ∧ Mc.1.cls ≠ "java/lang/invoke/VarHandle" ∧ (parseMethodDescriptor Mc.1.desc).map (fun d => d.parameters.length) = some na) (hmx : Mc.2.2.1 ≤ 41) : pOk mt law M il sc pc (oCallV cid ci (na + 1) Mc.2.2.1 (pc + 3)) := by
  intro l D cI cO adK adV b B id ls st h Q hM hL hop p e R s m args below meth c H locs cells slots mc ms Z A as0 bs ws cls cst hC hX hw hP hD hS hl hst hB hF
  subst hM
  obtain ⟨hrecv, hop⟩ := hop
  refine pCall hC hX hw hP hD hS hl hst hB hF hMc hlaw hy hop (fun k z wc avc crest Qx hMet hpre hcst hlen hargs hcat h1B hf => ?_)
  obtain ⟨w0, As, rfl, hAs⟩ := snoc_of hlen
  have hts := hC.2.2.2.2.1
  cases hargl : (st.take (na + 1)).reverse with
  | nil => rw [hargl] at hrecv; exact hrecv.elim
  | cons v0 r0 =>
    rw [hargl] at hrecv hargs
    have hv0 : ∃ j, v0 = .ref j ∧ pOb h j ci fun _ => True := by
      cases v0 with
      | ref j => exact ⟨j, rfl, hrecv⟩
      | _ => exact hrecv.elim
    obtain ⟨j, rfl, hob⟩ := hv0
    obtain ⟨fs, hfs, -⟩ := pOb_inv hob
    obtain ⟨a, c1, ha, hca, -⟩ := sR hargs
    cases hca
    obtain ⟨a', e', ha', hws, htc⟩ := hw.2.2 j _ hfs
    rw [ha] at ha'
    cases ha'
    obtain ⟨gs, rfl, hgs⟩ := tc_obj hC0 htc
    have hG : GoodIn lw_good (wsV (mt id).1.cls i C Mc.1 (Cond.code Mc.1 Mc.2.1 Mc.2.2.1 Mc.2.2.2 :: lw_good)) := by
      refine good_in (fun w hw => ?_)
      rcases List.mem_append.mp hw with h9 | h9
      · simp only [List.mem_cons, List.not_mem_nil, or_false] at h9
        rcases h9 with rfl | rfl | rfl | rfl
        · exact hl1
        · exact hl2
        · exact hl3
        · exact hl4
      · exact (gi_code hl5 w h9).1
    exact va_runV (nL := (mt id).2.2.1) (bytes := Mc.2.1) (maxL := Mc.2.2.1) (ret := Mc.2.2.2) ⟨hC.1, hC.2.1, hC.2.2.1, hC.2.2.2.1, hts⟩ hMet (cwV na hts hG rfl rfl rfl ⟨hcl, hdd⟩ ⟨by show B.1 - 1 + 8 + 1 ≤ R.frames; omega, by show 8 + (Mc.2.2.1 + 11) + 60 * (B.1 - 1 + 8) ≤ R.locals; omega⟩) ⟨pBlind, va_recv hC.2.2.2.2.2.1 hP hC0 hws, hpre⟩ rfl hAs (by obtain ⟨-, lv, g, -⟩ := hl; exact g.1) (by rw [hcst]; simp) (lv_room hcat) hd hf
theorem ok_callS {mt : Nat → pM} {law : Nat} {M : pM} {il : Bool} {sc : List Int32} {pc : Nat} {cid na i : Nat} {Mc : pM} (hd : decode M.2.1 pc = .ok (.invokestatic i, 3)) (hMc : mt cid = Mc) (hlaw : cid ≠ law) (hy : plainName Mc.1.cls = true) (hl1 : Cond.methodLink M.1.cls i Mc.1 ∈ lw_good) (hl2 : Cond.static Mc.1 ∈ lw_good) (hl4 : Cond.initialized Mc.1.cls ∈ lw_good) (hl5 : Cond.code Mc.1 Mc.2.1 Mc.2.2.1 Mc.2.2.2 ∈ lw_good) (hdd : Mc.1.cls ≠ "java/lang/invoke/MethodHandle" ∧ Mc.1.cls ≠ "java/lang/invoke/VarHandle" ∧ (parseMethodDescriptor Mc.1.desc).map (fun d => d.parameters.length) = some na) (hmx : Mc.2.2.1 ≤ 41) : pOk mt law M il sc pc (oCall cid na Mc.2.2.1 (pc + 3)) := by
  intro l D cI cO adK adV b B id ls st h Q hM hL hop p e R s m args below meth c H locs cells slots mc ms Z A as0 bs ws cls cst hC hX hw hP hD hS hl hst hB hF
  subst hM
  refine pCall hC hX hw hP hD hS hl hst hB hF hMc hlaw hy hop (fun k z wc avc crest Qx hMet hpre hcst hlen hargs hcat h1B hf => ?_)
  have hts := hC.2.2.2.2.1
  exact va_runS (nL := (mt id).2.2.1) (bytes := Mc.2.1) (maxL := Mc.2.2.1) (ret := Mc.2.2.2) ⟨hC.1, hC.2.1, hC.2.2.1, hC.2.2.2.1, hts⟩ hMet ⟨callB_of na hts (gi_code hl5) rfl rfl rfl (hts _ hl4) (hts _ hl1) hdd ⟨by show B.1 - 1 + 8 + 1 ≤ R.frames; omega, by show 8 + (Mc.2.2.1 + 11) + 60 * (B.1 - 1 + 8) ≤ R.locals; omega⟩, hts _ hl2⟩ ⟨pBlind, hpre⟩ rfl hlen (by obtain ⟨-, lv, g, -⟩ := hl; exact g.1) hcst (lv_room hcat) hd hf
theorem ok_callSN {mt : Nat → pM} {law : Nat} {M : pM} {il : Bool} {sc : List Int32} {pc : Nat} {cid na i : Nat} {Mc : pM} (hd : decode M.2.1 pc = .ok (.invokestatic i, 3)) (hMc : mt cid = Mc) (hlaw : cid ≠ law) (hy : plainName Mc.1.cls = true) (hl1 : (M.1.cls, i, Mc.1) ∈ lw_nest) (hl2 : Cond.static Mc.1 ∈ lw_good) (hl4 : Cond.initialized Mc.1.cls ∈ lw_good) (hl5 : Cond.code Mc.1 Mc.2.1 Mc.2.2.1 Mc.2.2.2 ∈ lw_good) (hdd : Mc.1.cls ≠ "java/lang/invoke/MethodHandle" ∧ Mc.1.cls ≠ "java/lang/invoke/VarHandle" ∧ (parseMethodDescriptor Mc.1.desc).map (fun d => d.parameters.length) = some na) (hmx : Mc.2.2.1 ≤ 41) : pOk mt law M il sc pc (oCall cid na Mc.2.2.1 (pc + 3)) := by
  intro l D cI cO adK adV b B id ls st h Q hM hL hop p e R s m args below meth c H locs cells slots mc ms Z A as0 bs ws cls cst hC hX hw hP hD hS hl hst hB hF
  subst hM
  refine pCall hC hX hw hP hD hS hl hst hB hF hMc hlaw hy hop (fun k z wc avc crest Qx hMet hpre hcst hlen hargs hcat h1B hf => ?_)
  have hts := hC.2.2.2.2.1
  have hnest := hC.2.2.2.2.2.2.2.2.2.1.1.1 _ hl1
  exact va_runSN (nL := (mt id).2.2.1) (bytes := Mc.2.1) (maxL := Mc.2.2.1) (ret := Mc.2.2.2) ⟨hC.1, hC.2.1, hC.2.2.1, hC.2.2.2.1, hts⟩ hMet ⟨va_cnB na hts (gi_code hl5) rfl rfl rfl hnest (hts _ hl4) hdd ⟨by show B.1 - 1 + 8 + 1 ≤ R.frames; omega, by show 8 + (Mc.2.2.1 + 11) + 60 * (B.1 - 1 + 8) ≤ R.locals; omega⟩, hts _ hl2, trivial⟩ ⟨pBlind, hpre⟩ rfl hlen (by obtain ⟨-, lv, g, -⟩ := hl; exact g.1) hcst (lv_room hcat) hd hf
theorem ok_callI {mt : Nat → pM} {law : Nat} {M : pM} {il : Bool} {sc : List Int32} {pc : Nat} {cid na i : Nat} {Mc : pM} (hd : decode M.2.1 pc = .ok (.invokespecial i, 3)) (hMc : mt cid = Mc) (hlaw : cid ≠ law) (hy : plainName Mc.1.cls = true) (hin : Mc.1.name = "<init>") (hret : Mc.2.2.2 = none) (hl1 : Cond.methodLink M.1.cls i Mc.1 ∈ lw_good) (hl2 : Cond.instanceMethod Mc.1 ∈ lw_good) (hl4 : Cond.initialized Mc.1.cls ∈ lw_good) (hl5 : Cond.code Mc.1 Mc.2.1 Mc.2.2.1 Mc.2.2.2 ∈ lw_good) (hdd : Mc.1.cls ≠ "java/lang/invoke/MethodHandle" ∧ Mc.1.cls ≠ "java/lang/invoke/VarHandle" ∧ (parseMethodDescriptor Mc.1.desc).map (fun d => d.parameters.length) = some na) (hmx : Mc.2.2.1 ≤ 41) : pOk mt law M il sc pc (oCallI cid (na + 1) Mc.2.2.1 (pc + 3)) := by
  intro l D cI cO adK adV b B id ls st h Q hM hL hop p e R s m args below meth c H locs cells slots mc ms Z A as0 bs ws cls cst hC hX hw hP hD hS hl hst hB hF
  subst hM
  obtain ⟨hrecv, hop⟩ := hop
  obtain ⟨y, bytesc, maxLc, retc⟩ := Mc
  dsimp only at hret
  subst hret
  refine pCall hC hX hw hP hD hS hl hst hB hF hMc hlaw hy hop (fun k z wc avc crest Qx hMet hpre hcst hlen hargs hcat h1B hf => ?_)
  obtain ⟨w0, As, rfl, hAs⟩ := snoc_of hlen
  have hts := hC.2.2.2.2.1
  cases hargl : (st.take (na + 1)).reverse with
  | nil => rw [hargl] at hrecv; exact hrecv.elim
  | cons v0 r0 =>
    rw [hargl] at hrecv hargs
    have hv0 : ∃ j, v0 = .ref j := by
      cases v0 with
      | ref j => exact ⟨j, rfl⟩
      | _ => exact hrecv.elim
    obtain ⟨j, rfl⟩ := hv0
    obtain ⟨a, c1, ha, hca, -⟩ := sR hargs
    cases hca
    exact va_runI (nL := (mt id).2.2.1) (bytes := bytesc) (maxL := maxLc) ⟨hC.1, hC.2.1, hC.2.2.1, hC.2.2.2.1, hts⟩ hMet (cwI na hts (gi_code hl5) rfl rfl rfl (hts _ hl4) (hts _ hl1) (hts _ hl2) hin hdd ⟨by show B.1 - 1 + 8 + 1 ≤ R.frames; omega, by show 8 + (maxLc + 11) + 60 * (B.1 - 1 + 8) ≤ R.locals; have h9 : maxLc ≤ 41 := hmx; omega⟩) ⟨pBlind, hpre⟩ rfl hAs (by obtain ⟨-, lv, g, -⟩ := hl; exact g.1) (by rw [hcst]; simp) (lv_room hcat) hd hf
theorem ok_callIN {mt : Nat → pM} {law : Nat} {M : pM} {il : Bool} {sc : List Int32} {pc : Nat} {cid na i : Nat} {Mc : pM} (hd : decode M.2.1 pc = .ok (.invokespecial i, 3)) (hMc : mt cid = Mc) (hlaw : cid ≠ law) (hy : plainName Mc.1.cls = true) (hin : Mc.1.name = "<init>") (hret : Mc.2.2.2 = none) (hl1 : (M.1.cls, i, Mc.1) ∈ lw_nest) (hl2 : Cond.instanceMethod Mc.1 ∈ lw_good) (hl4 : Cond.initialized Mc.1.cls ∈ lw_good) (hl5 : Cond.code Mc.1 Mc.2.1 Mc.2.2.1 Mc.2.2.2 ∈ lw_good) (hdd : Mc.1.cls ≠ "java/lang/invoke/MethodHandle" ∧ Mc.1.cls ≠ "java/lang/invoke/VarHandle" ∧ (parseMethodDescriptor Mc.1.desc).map (fun d => d.parameters.length) = some na) (hmx : Mc.2.2.1 ≤ 41) : pOk mt law M il sc pc (oCallI cid (na + 1) Mc.2.2.1 (pc + 3)) := by
  intro l D cI cO adK adV b B id ls st h Q hM hL hop p e R s m args below meth c H locs cells slots mc ms Z A as0 bs ws cls cst hC hX hw hP hD hS hl hst hB hF
  subst hM
  obtain ⟨hrecv, hop⟩ := hop
  obtain ⟨y, bytesc, maxLc, retc⟩ := Mc
  dsimp only at hret
  subst hret
  refine pCall hC hX hw hP hD hS hl hst hB hF hMc hlaw hy hop (fun k z wc avc crest Qx hMet hpre hcst hlen hargs hcat h1B hf => ?_)
  obtain ⟨w0, As, rfl, hAs⟩ := snoc_of hlen
  have hts := hC.2.2.2.2.1
  cases hargl : (st.take (na + 1)).reverse with
  | nil => rw [hargl] at hrecv; exact hrecv.elim
  | cons v0 r0 =>
    rw [hargl] at hrecv hargs
    have hv0 : ∃ j, v0 = .ref j := by
      cases v0 with
      | ref j => exact ⟨j, rfl⟩
      | _ => exact hrecv.elim
    obtain ⟨j, rfl⟩ := hv0
    obtain ⟨a, c1, ha, hca, -⟩ := sR hargs
    cases hca
    have hnest := hC.2.2.2.2.2.2.2.2.2.1.1.1 _ hl1
    exact va_runIN (nL := (mt id).2.2.1) (bytes := bytesc) (maxL := maxLc) ⟨hC.1, hC.2.1, hC.2.2.1, hC.2.2.2.1, hts⟩ hMet ⟨va_cnB na hts (gi_code hl5) rfl rfl rfl hnest (hts _ hl4) hdd ⟨by show B.1 - 1 + 8 + 1 ≤ R.frames; omega, by show 8 + (maxLc + 11) + 60 * (B.1 - 1 + 8) ≤ R.locals; have h9 : maxLc ≤ 41 := hmx; omega⟩, hin, hts _ hl2⟩ ⟨pBlind, hpre⟩ rfl hAs (by obtain ⟨-, lv, g, -⟩ := hl; exact g.1) (by rw [hcst]; simp) (lv_room hcat) hd hf
