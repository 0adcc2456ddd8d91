/-! Arrays.copyOfRange. -/
section KC
variable {l : Launch} {D : va_G} {cI cO : ClassId} {adK adV : Nat → Nat}
abbrev kE (cI : ClassId) (zs : List Int32) : va_E := .inl (cI, zs.length, .inl (fun j => zs.getD j 0))
def kPre (D : va_G) (cI cO : ClassId) (adK adV : Nat → Nat) (ws : va_W) (sz : Nat) (U : State) : Prop := U.heap.size = sz ∧ va_P D clsP ws U.heap ∧ va_K D clsP (pTys cI cO) U ∧ va_D (fun _ => True) ws ∧ va_Nw (.castable "[I" "java/lang/Cloneable") U ∧ jP adK adV U
theorem kBlind {ws : va_W} {sz : Nat} {av : List Value} : FrameBlind (va_Pc av (kPre D cI cO adK adV ws sz)) := by
  intro a U g mk h
  obtain ⟨h1, h2, h3, h4, h5, h6, h7⟩ := h
  exact ⟨h1, h2, h3, va_K.moved (u := U) (U := U.calling g mk a) (Vm.Alike.refl U.vm) h4, h5, va_Nw.same rfl rfl h6, h7.blind⟩
abbrev kQ (D : va_G) (cI : ClassId) (ws : va_W) (sz : Nat) (zs : List Int32) : Array Value → State → Outcome → State → Prop := va_Qr (S := Unit) (fun _ => True) (fun _ a t => va_P D clsP (ws ++ [(a, kE cI zs)]) t.heap ∧ va_D (va_A ws sz) (ws ++ [(a, kE cI zs)])) (va_A ws sz)
abbrev kR (d n : Nat) : Room := { frames := d, cells := 1, slots := n, locals := 60 * d }
theorem kM_of {d n : Nat} {y : MethodName} {cc : ByteArray} {nL : Nat} {ret : Option FieldType} {av : List Value} {Pre : State → Prop} {Qc : Array Value → State → Outcome → State → Prop} {free : Addr → Prop} (hy : plainName y.cls = true) (hn : (lg_sl av).length ≤ nL)
    (body : ∀ (p : Program) (e : Env) (s : State) (m : MethodId) (below : List Frame) (meth : Method) (c : Code) (ls : Array Slot), p.tables.exec = Jvm.exec → c.code = cc → c.maxLocals = nL → s.vm.findClass y.cls = some m.cls → (∀ w ∈ lw_good, w.before av.toArray s = true) → meth.sig.returnType = ret → meth.locks = false → Pre s → lv_has ls nL (lv_args 0 av) → W p l e (kR d n) s m av.toArray below meth c s.heap [] 0 0 (MQ below Qc av.toArray s 1 n free) (F0 m 0 ls [])) : Met l y (.code y cc nL ret :: lw_good) (kR d n) (va_Pc av Pre) Qc 1 n free := by
  refine Met.ofW (cc := cc) (maxL := nL) (ret := ret) hy rfl ?_
  intro p e s m args below meth c s₁ B hml hv
  obtain ⟨rfl, hP⟩ := hv
  have hts := atoms_spec (ws := (Cond.code y cc nL ret :: lw_good)) B.pre
  rw [lg_entry_eq]
  exact body p e s m below meth c _ B.exec B.bytes hml (findClass_of_methodNamed B.named) (fun w h => hts w (List.mem_cons_of_mem _ h)) B.returns B.notSynchronized hP (lv_entry av hn)
/-- Arrays.checkLength -/
theorem j_cl {f t : Nat} (h : f ≤ t) (ht : t < 2 ^ 31) : jM l adK adV 0 yJ7_checkLength_df160 cJ7_checkLength_df160 2 none [.int (nI f), .int (nI t)] (va_Sv (fun _ => True)) := by
  refine jM_of (by decide) (Nat.le_of_ble_eq_true rfl) ?_
  intro p e s m below meth c ls ⟨hx, hb, hml, hown, hts, hret, hlk, hE⟩ hl
  refine lv_iload_n hx hb (k := 1) (by decide +kernel) rfl (lv_at hl 1 rfl) ?_
  refine lv_iload_n hx hb (k := 0) (by decide +kernel) rfl (lv_at hl 0 rfl) ?_
  refine lv_icmp_ge (tgt := 37) (off := 35) hx hb (by decide +kernel) (by decide) (fun _ => ?_) (fun z => absurd (nI_le h ht) z)
  exact W.vret hx hb hret (fun t ht hW => ⟨rfl, trivial, ht⟩) (fun q hq => by cases hq) (by decide +kernel)
theorem kZs {xs : List Int32} {f t : Nat} (hft : f ≤ t) (htl : t ≤ xs.length) : ((xs.drop f).take (t - f)).length = t - f := by
  rw [List.length_take, List.length_drop]; omega
theorem jsub {a b : Nat} (h : b ≤ a) : nI a - nI b = nI (a - b) := by
  have e : nI (a - b) + nI b = nI a := by
    have := (Int32.ofNat_add (a - b) b).symm
    rw [show a - b + b = a by omega] at this
    exact this
  rw [← e]
  exact Int32.add_sub_cancel _ _
/-- Arrays.copyOfRangeInt -/
theorem k_int {ws : va_W} {q a f t sz : Nat} {xs : List Int32} (hq : ws[q]? = some (a, kE cI xs)) (hft : f ≤ t) (htl : t ≤ xs.length) (hxl : xs.length ≤ 134217728) : Met l yJ7_copyOfRangeInt_feecc (.code yJ7_copyOfRangeInt_feecc cJ7_copyOfRangeInt_feecc 5 (some (.array .int)) :: lw_good) (kR 2 (t - f)) (va_Pc [.ref a, .int (nI f), .int (nI t)] (kPre D cI cO adK adV ws sz)) (kQ D cI ws sz ((xs.drop f).take (t - f))) 1 (t - f) (va_A ws sz) := by
  refine kM_of (by decide) (Nat.le_of_ble_eq_true rfl) ?_
  intro p e s m below meth c ls hx hb hml hown hts hret hlk ⟨hsz, hP, hK, hD0, hcast, hE⟩ hl
  subst hsz
  have hD := hD0.self (sz := s.heap.size)
  have hA : ∀ q : Nat, s.heap.size ≤ q → va_A ws s.heap.size q := fun q h => Or.inr h
  refine lv_iload_n hx hb (k := 1) (by decide +kernel) rfl (lv_at hl 1 rfl) ?_
  refine lv_iload_n hx hb (k := 2) (by decide +kernel) rfl (lv_at hl 2 rfl) ?_
  refine va_csv (jRS (As := [.int (nI f), .int (nI t)]) (n := 2) (rest := []) ⟨hx, hb, hml, hown, hts⟩ (j_cl hft (by omega)) jw_l_cl jw_s_cl jw_n_J7 jw_c_cl ⟨by decide, by decide, by decide +kernel⟩ rfl ⟨Nat.le_of_ble_eq_true rfl, Nat.le_of_ble_eq_true rfl, by decide⟩ ⟨Nat.zero_le _, Nat.zero_le _⟩ (fun U h1 h2 => hE.go h1 h2) hl.1 (Nat.le_of_ble_eq_true rfl) (by decide +kernel)) (fun _ => ?_)
  refine lv_iload_n hx hb (k := 2) (by decide +kernel) rfl (lv_at hl 2 rfl) ?_
  refine lv_iload_n hx hb (k := 1) (by decide +kernel) rfl (lv_at hl 1 rfl) ?_
  refine lv_isub hx hb (by decide +kernel) ?_
  rw [jsub hft]
  refine lv_istore_n hx hb (k := 3) (by decide +kernel) rfl hl (by decide) rfl (fun ls1 hl1 => ?_)
  refine lv_iload_n hx hb (k := 3) (by decide +kernel) rfl (lv_at hl1 0 rfl) ?_
  refine va_newa (atype := .int) (ty := .int) (N' := t - f) (a0 := (t - f, .inl (fun j => (List.replicate (t - f) (0 : Int32)).getD j 0))) hx hb (hts _ jw_a_I) rfl hK hP hD va_S.rf hA (fun cA => by simp only [getD_rep]; rfl) (nI_pos (by omega)) (nI_clamp (by omega)) (by show (t - f) * 4 ≤ _; omega) (by show 0 + 1 ≤ 1; omega) (by show 0 + (t - f) ≤ t - f; omega) (by decide +kernel) (fun q2 cA H1 hK1 hP1 hD1 hS1 => ?_)
  have hcA := va_K.sameI hK1
  rw [hcA] at hP1 hD1
  refine lv_astore hx hb (i := 4) (by decide +kernel) hl1 (by decide) rfl (fun ls2 hl2 => ?_)
  have hqs : (ws ++ [(q2, (.inl (cI, t - f, .inl (fun j => (List.replicate (t - f) (0 : Int32)).getD j 0)) : va_E))])[q]? = some (a, kE cI xs) := by rw [List.getElem?_append_left (List.getElem?_eq_some_iff.mp hq).1]; exact hq
  have hnw : (ws ++ [(q2, (.inl (cI, t - f, .inl (fun j => (List.replicate (t - f) (0 : Int32)).getD j 0)) : va_E))])[ws.length]? = some (q2, .inl (cI, t - f, .inl (fun j => (List.replicate (t - f) (0 : Int32)).getD j 0))) := by rw [List.getElem?_append_right (Nat.le_refl _), Nat.sub_self]; rfl
  refine lv_aload_n hx hb (k := 0) (by decide +kernel) rfl (lv_at hl2 2 rfl) ?_
  refine lv_iload_n hx hb (k := 1) (by decide +kernel) rfl (lv_at hl2 3 rfl) ?_
  refine lv_aload hx hb (i := 4) (by decide +kernel) (lv_at hl2 0 rfl) ?_
  refine lv_iconst (n := 0) (v := 0) hx hb (by decide +kernel) rfl ?_
  refine lv_aload_n hx hb (k := 0) (by decide +kernel) rfl (lv_at hl2 2 rfl) ?_
  refine va_alen (v := nI xs.length) hx hb hK hP1 q 0 hqs rfl rfl (by decide +kernel) ?_
  refine lv_iload_n hx hb (k := 1) (by decide +kernel) rfl (lv_at hl2 3 rfl) ?_
  refine lv_isub hx hb (by decide +kernel) ?_
  rw [jsub (show f ≤ xs.length by omega)]
  refine lv_iload_n hx hb (k := 3) (by decide +kernel) rfl (lv_at hl2 1 rfl) ?_
  refine va_mmin hx hb (hml.trans hl2.1.symm) hown (hts _ jw_l_mj) (hts _ jw_s_mi) (hts _ jw_n_Ma) (hts _ jw_c_mi) (Nat.le_of_ble_eq_true rfl) (Nat.le_of_ble_eq_true rfl) (Nat.le_refl _) (by show 0 + (t - f) ≤ t - f; omega) (by decide +kernel) ?_
  have hmin : (if nI (t - f) < nI (xs.length - f) then nI (t - f) else nI (xs.length - f)) = nI (t - f) := by
    by_cases h9 : t - f < xs.length - f
    · rw [if_pos (nI_lt h9 (by omega))]
    · rw [show xs.length - f = t - f by omega, ite_self]
  rw [hmin]
  have g6 : f + (t - f) ≤ xs.length := by omega
  have g7 : 0 + (t - f) ≤ (List.replicate (t - f) (0 : Int32)).length := by rw [List.length_replicate]; omega
  refine va_copyi (ty := .int) (rest := []) hx hb (hml.trans hl2.1.symm) hown (hts _ jw_l_ac) (hts _ jw_t_ac) (hts _ jw_s_ac) (hts _ jw_n_Sy) hK hP1 hD1 hS1 q ws.length 0 0 hqs hnw rfl rfl rfl (nI_pos (by omega)) (by decide) (nI_pos (by omega)) (by rw [nI_clamp (by omega), nI_clamp (by omega)]; omega) (by rw [nI_clamp (by omega)]; show 0 + _ ≤ _; omega) (fun _ _ => rfl) (Nat.le_of_ble_eq_true rfl) (by show 0 + (nativeFrameWords "java/lang/System" "arraycopy" 5 + 11) ≤ 120; decide) (by decide +kernel) (fun H2 locs2 hP2 hD2 hS2 => ?_)
  rw [nI_clamp (show f < 2 ^ 31 by omega), nI_clamp (show t - f < 2 ^ 31 by omega), show (0 : Int32).toNatClampNeg = 0 from rfl, getD_copy g6 g7] at hP2 hD2
  have hz : pCopy xs (List.replicate (t - f) 0) f 0 (t - f) = (xs.drop f).take (t - f) := by
    simp [pCopy]
  have hset : ∀ x y : Nat × va_E, (ws ++ [x]).set ws.length y = ws ++ [y] := fun x y => by simp
  rw [hz, hset] at hP2 hD2
  have hlz := kZs hft htl
  refine lv_aload hx hb (i := 4) (by decide +kernel) (lv_at hl2 0 rfl) ?_
  refine W.cs (cells' := 1) (slots' := t - f) rfl (Nat.zero_add _) ?_
  refine W.aret (rt := .array .int) hx hb hret (Or.inr ⟨_, rfl⟩) (Or.inr ⟨_, rfl⟩) (fun t1 ht hW => ⟨⟨(), q2, rfl, trivial, ?_, ?_⟩, hS2.F ht⟩) hS2.2.2 (by decide +kernel)
  · rw [ht]; unfold kE; rw [hlz]; exact hP2
  · unfold kE; rw [hlz]; exact hD2
/-- Arrays.copyOfRange -/
theorem k_range {ws : va_W} {q a f t sz : Nat} {xs : List Int32} (hq : ws[q]? = some (a, kE cI xs)) (hft : f ≤ t) (htl : t ≤ xs.length) (hxl : xs.length ≤ 134217728) : Met l yJ7_copyOfRange_feecc (.code yJ7_copyOfRange_feecc cJ7_copyOfRange_feecc 3 (some (.array .int)) :: lw_good) (kR 4 (t - f)) (va_Pc [.ref a, .int (nI f), .int (nI t)] (kPre D cI cO adK adV ws sz)) (kQ D cI ws sz ((xs.drop f).take (t - f))) 1 (t - f) (va_A ws sz) := by
  refine kM_of (by decide) (Nat.le_of_ble_eq_true rfl) ?_
  intro p e s m below meth c ls hx hb hml hown hts hret hlk ⟨hsz, hP, hK, hD0, hcast, hE⟩ hl
  subst hsz
  have hD := hD0.self (sz := s.heap.size)
  have hA : ∀ q : Nat, s.heap.size ≤ q → va_A ws s.heap.size q := fun q h => Or.inr h
  have key : W p l e (kR 4 (t - f)) s m ([.ref a, .int (nI f), .int (nI t)] : List Value).toArray below meth c s.heap [] 0 0 (MQ below (kQ D cI ws s.heap.size ((xs.drop f).take (t - f))) ([.ref a, .int (nI f), .int (nI t)] : List Value).toArray s 1 (t - f) (va_A ws s.heap.size)) (F0 m 10 ls []) := by
    refine lv_aload_n hx hb (k := 0) (by decide +kernel) rfl (lv_at hl 0 rfl) ?_
    refine lv_iload_n hx hb (k := 1) (by decide +kernel) rfl (lv_at hl 1 rfl) ?_
    refine lv_iload_n hx hb (k := 2) (by decide +kernel) rfl (lv_at hl 2 rfl) ?_
    refine va_callr (A0 := va_A ws s.heap.size) (H0 := s.heap) (va_runS (nL := 3) (As := [.ref a, .int (nI f), .int (nI t)]) (rest := []) (n := 3) ⟨hx, hb, hml, hown, hts⟩ (k_int (D := D) (cO := cO) (adK := adK) (adV := adV) (sz := s.heap.size) hq hft htl hxl) ⟨callB_of 3 hts (good_in (fun w hw => by rcases List.mem_cons.mp hw with rfl | hw; exact jw_c_cy; exact hw)) rfl rfl rfl (hts _ jw_n_J7) (hts _ jw_l_cy) ⟨by decide, by decide, by decide +kernel⟩ ⟨Nat.le_of_ble_eq_true rfl, Nat.le_of_ble_eq_true rfl⟩, hts _ jw_s_cy⟩ ⟨kBlind, fun U h1 h2 => ⟨rfl, by rw [h1], by rw [h1]; exact hP, va_K.moved h2.alike hK, hD0, hcast.warmC h2, hE.go h1 h2⟩⟩ rfl rfl hl.1 rfl (lv_room (Nat.le_of_ble_eq_true rfl)) (by show decode cJ7_copyOfRange_feecc 13 = .ok (.invokestatic 351, 3); decide +kernel) ⟨Nat.le_of_ble_eq_true rfl, by show 0 + (t - f) ≤ t - f; omega⟩) va_S.rf (fun q _ h => h) (fun q h => h) (fun u ra t1 H1 locs1 ht1 hal _ hB hz hk hS1 => ?_)
    obtain ⟨hP1, hD1⟩ := hB
    rw [ht1] at hP1
    refine W.cs (cells' := 1) (slots' := t - f) rfl (Nat.zero_add _) ?_
    exact W.aret (rt := .array .int) hx hb hret (Or.inr ⟨_, rfl⟩) (Or.inr ⟨_, rfl⟩) (fun t2 ht hW => ⟨⟨(), ra, rfl, trivial, by rw [ht]; exact hP1, hD1⟩, hS1.F ht⟩) hS1.2.2 (by decide +kernel)
  refine lv_iload_n hx hb (k := 1) (by decide +kernel) rfl (lv_at hl 1 rfl) ?_
  refine lv_if_ne (tgt := 10) (off := 9) hx hb (by decide +kernel) (by decide) (fun _ => key) (fun h0 => ?_)
  refine lv_iload_n hx hb (k := 2) (by decide +kernel) rfl (lv_at hl 2 rfl) ?_
  refine lv_aload_n hx hb (k := 0) (by decide +kernel) rfl (lv_at hl 0 rfl) ?_
  refine va_alen (v := nI xs.length) hx hb hK hP q 0 hq rfl rfl (by decide +kernel) ?_
  refine lv_icmp_eq (tgt := 17) (off := 10) hx hb (by decide +kernel) (by decide) (fun h1 => ?_) (fun _ => key)
  have hf0 : f = 0 := by
    have := congrArg Int32.toNatClampNeg h0
    rw [nI_clamp (by omega)] at this
    exact this
  have htx : t = xs.length := by
    have := congrArg Int32.toNatClampNeg h1
    rw [nI_clamp (by omega), nI_clamp (by omega)] at this
    exact this
  subst hf0
  subst htx
  have hzs : (xs.drop 0).take (xs.length - 0) = xs := by simp
  refine lv_aload_n hx hb (k := 0) (by decide +kernel) rfl (lv_at hl 0 rfl) ?_
  refine va_clone (ad := "[I") (ty := .int) hx hb (hml.trans hl.1.symm) hown (hts _ jw_l_cn) (hts _ jw_m_cn) (hts _ jw_t_cn) (hts _ jw_i_cn) (hts _ jw_e_cn) hcast hK hP hD va_S.rf hA q 0 hq rfl (va_nm_int (hK.2 0 _ rfl).2) (va_fit (fun i _ => rfl)) (Nat.le_of_ble_eq_true rfl) (Nat.le_of_ble_eq_true rfl) (Nat.le_of_ble_eq_true rfl) (by show 0 + xs.length ≤ xs.length - 0; omega) (by decide +kernel) (fun q2 H1 hK1 hP1 hD1 hS1 => ?_)
  have hnw : (ws ++ [(q2, kE cI xs)])[ws.length]? = some (q2, kE cI xs) := by rw [List.getElem?_append_right (Nat.le_refl _), Nat.sub_self]; rfl
  refine va_castA hx hb hown (hts _ jw_k_cn) hP1 ws.length hnw (va_nm_int (hK.2 0 _ rfl).2) (by decide +kernel) ?_
  refine W.cs (cells' := 1) (slots' := xs.length - 0) rfl (Nat.zero_add _) ?_
  exact W.aret (rt := .array .int) hx hb hret (Or.inr ⟨_, rfl⟩) (Or.inr ⟨_, rfl⟩) (fun t2 ht hW => ⟨⟨(), q2, rfl, trivial, by rw [ht, hzs]; exact hP1, by rw [hzs]; exact hD1⟩, hS1.F ht⟩) hS1.2.2 (by decide +kernel)
end KC
