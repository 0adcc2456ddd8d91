/-! The words of the JDK's methods, by their places (printed by wip/whole/gen_jw.py). -/
theorem jm_good {w : Cond} (i : Nat) (h : lw_tbl[i]? = some w) (hg : goodWord w = true) : w ∈ lw_good := List.mem_filter.mpr ⟨List.mem_of_getElem? h, hg⟩
theorem jw_f_cs : Cond.fieldLink RJ0 38 "java/lang/String" "COMPACT_STRINGS" "Z" ∈ lw_good := jm_good 209 (by decide +kernel) (by decide +kernel)
theorem jw_f_co : Cond.fieldLink RJ0 15 "java/lang/String" "coder" "B" ∈ lw_good := jm_good 1333 (by decide +kernel) (by decide +kernel)
theorem jw_f_va : Cond.fieldLink RJ0 9 "java/lang/String" "value" "[B" ∈ lw_good := jm_good 1332 (by decide +kernel) (by decide +kernel)
theorem jw_f_sf : Cond.fieldLink RJ0 1053 "jdk/internal/util/Preconditions" "SIOOBE_FORMATTER" "Ljava/util/function/BiFunction;" ∈ lw_good := jm_good 225 (by decide +kernel) (by decide +kernel)
theorem jw_n_J0 : Cond.initialized RJ0 ∈ lw_good := jm_good 78 (by decide +kernel) (by decide +kernel)
theorem jw_n_J1 : Cond.initialized RJ1 ∈ lw_good := jm_good 79 (by decide +kernel) (by decide +kernel)
theorem jw_n_J3 : Cond.initialized RJ3 ∈ lw_good := jm_good 80 (by decide +kernel) (by decide +kernel)
theorem jw_n_J7 : Cond.initialized RJ7 ∈ lw_good := jm_good 91 (by decide +kernel) (by decide +kernel)
theorem jw_n_Ma : Cond.initialized "java/lang/Math" ∈ lw_good := jm_good 85 (by decide +kernel) (by decide +kernel)
theorem jw_n_Sy : Cond.initialized "java/lang/System" ∈ lw_good := jm_good 90 (by decide +kernel) (by decide +kernel)
theorem jw_i_co : Cond.instanceMethod yJ0_coder_7d493 ∈ lw_good := jm_good 206 (by decide +kernel) (by decide +kernel)
theorem jw_e_co : Cond.selects RJ0 yJ0_coder_7d493 yJ0_coder_7d493 ∈ lw_good := jm_good 207 (by decide +kernel) (by decide +kernel)
theorem jw_c_co : Cond.code yJ0_coder_7d493 cJ0_coder_7d493 1 (some .byte) ∈ lw_good := jm_good 208 (by decide +kernel) (by decide +kernel)
theorem jw_i_la : Cond.instanceMethod yJ0_isLatin1_aae02 ∈ lw_good := jm_good 216 (by decide +kernel) (by decide +kernel)
theorem jw_e_la : Cond.selects RJ0 yJ0_isLatin1_aae02 yJ0_isLatin1_aae02 ∈ lw_good := jm_good 217 (by decide +kernel) (by decide +kernel)
theorem jw_c_la : Cond.code yJ0_isLatin1_aae02 cJ0_isLatin1_aae02 1 (some .boolean) ∈ lw_good := jm_good 218 (by decide +kernel) (by decide +kernel)
theorem jw_i_le : Cond.instanceMethod yJ0_length_8abf5 ∈ lw_good := jm_good 202 (by decide +kernel) (by decide +kernel)
theorem jw_e_le : Cond.selects RJ0 yJ0_length_8abf5 yJ0_length_8abf5 ∈ lw_good := jm_good 203 (by decide +kernel) (by decide +kernel)
theorem jw_c_le : Cond.code yJ0_length_8abf5 cJ0_length_8abf5 1 (some .int) ∈ lw_good := jm_good 204 (by decide +kernel) (by decide +kernel)
theorem jw_i_ca : Cond.instanceMethod yJ0_charAt_5068e ∈ lw_good := jm_good 212 (by decide +kernel) (by decide +kernel)
theorem jw_e_ca : Cond.selects RJ0 yJ0_charAt_5068e yJ0_charAt_5068e ∈ lw_good := jm_good 213 (by decide +kernel) (by decide +kernel)
theorem jw_c_ca : Cond.code yJ0_charAt_5068e cJ0_charAt_5068e 2 (some .char) ∈ lw_good := jm_good 214 (by decide +kernel) (by decide +kernel)
theorem jw_i_ix : Cond.instanceMethod yJ0_indexOf_0f7a4 ∈ lw_good := jm_good 286 (by decide +kernel) (by decide +kernel)
theorem jw_e_ix : Cond.selects RJ0 yJ0_indexOf_0f7a4 yJ0_indexOf_0f7a4 ∈ lw_good := jm_good 287 (by decide +kernel) (by decide +kernel)
theorem jw_c_ix : Cond.code yJ0_indexOf_0f7a4 cJ0_indexOf_0f7a4 2 (some .int) ∈ lw_good := jm_good 288 (by decide +kernel) (by decide +kernel)
theorem jw_i_iy : Cond.instanceMethod yJ0_indexOf_7cf53 ∈ lw_good := jm_good 290 (by decide +kernel) (by decide +kernel)
theorem jw_e_iy : Cond.selects RJ0 yJ0_indexOf_7cf53 yJ0_indexOf_7cf53 ∈ lw_good := jm_good 291 (by decide +kernel) (by decide +kernel)
theorem jw_c_iy : Cond.code yJ0_indexOf_7cf53 cJ0_indexOf_7cf53 3 (some .int) ∈ lw_good := jm_good 292 (by decide +kernel) (by decide +kernel)
theorem jw_s_lc : Cond.static yJ1_charAt_3b067 ∈ lw_good := jm_good 220 (by decide +kernel) (by decide +kernel)
theorem jw_c_lc : Cond.code yJ1_charAt_3b067 cJ1_charAt_3b067 2 (some .char) ∈ lw_good := jm_good 221 (by decide +kernel) (by decide +kernel)
theorem jw_s_ck : Cond.static yJ0_checkIndex_df160 ∈ lw_good := jm_good 223 (by decide +kernel) (by decide +kernel)
theorem jw_c_ck : Cond.code yJ0_checkIndex_df160 cJ0_checkIndex_df160 2 none ∈ lw_good := jm_good 224 (by decide +kernel) (by decide +kernel)
theorem jw_s_pk : Cond.static yJ3_checkIndex_8e157 ∈ lw_good := jm_good 228 (by decide +kernel) (by decide +kernel)
theorem jw_c_pk : Cond.code yJ3_checkIndex_8e157 cJ3_checkIndex_8e157 3 (some .int) ∈ lw_good := jm_good 229 (by decide +kernel) (by decide +kernel)
theorem jw_s_ce : Cond.static yJ1_canEncode_9a6ad ∈ lw_good := jm_good 298 (by decide +kernel) (by decide +kernel)
theorem jw_c_ce : Cond.code yJ1_canEncode_9a6ad cJ1_canEncode_9a6ad 1 (some .boolean) ∈ lw_good := jm_good 299 (by decide +kernel) (by decide +kernel)
theorem jw_s_li : Cond.static yJ1_indexOf_4cfef ∈ lw_good := jm_good 295 (by decide +kernel) (by decide +kernel)
theorem jw_c_li : Cond.code yJ1_indexOf_4cfef cJ1_indexOf_4cfef 4 (some .int) ∈ lw_good := jm_good 296 (by decide +kernel) (by decide +kernel)
theorem jw_s_lx : Cond.static yJ1_indexOfChar_4cfef ∈ lw_good := jm_good 307 (by decide +kernel) (by decide +kernel)
theorem jw_c_lx : Cond.code yJ1_indexOfChar_4cfef cJ1_indexOfChar_4cfef 6 (some .int) ∈ lw_good := jm_good 308 (by decide +kernel) (by decide +kernel)
theorem jw_s_ma : Cond.static Lib.Math.max.name ∈ lw_good := jm_good 301 (by decide +kernel) (by decide +kernel)
theorem jw_c_ma : Cond.code Lib.Math.max.name Lib.Math.max.code 2 (some .int) ∈ lw_good := jm_good 302 (by decide +kernel) (by decide +kernel)
theorem jw_s_mi : Cond.static Lib.Math.min.name ∈ lw_good := jm_good 304 (by decide +kernel) (by decide +kernel)
theorem jw_c_mi : Cond.code Lib.Math.min.name Lib.Math.min.code 2 (some .int) ∈ lw_good := jm_good 305 (by decide +kernel) (by decide +kernel)
theorem jw_s_cl : Cond.static yJ7_checkLength_df160 ∈ lw_good := jm_good 655 (by decide +kernel) (by decide +kernel)
theorem jw_c_cl : Cond.code yJ7_checkLength_df160 cJ7_checkLength_df160 2 none ∈ lw_good := jm_good 656 (by decide +kernel) (by decide +kernel)
theorem jw_s_cr : Cond.static yJ7_copyOfRange_feecc ∈ lw_good := jm_good 649 (by decide +kernel) (by decide +kernel)
theorem jw_c_cr : Cond.code yJ7_copyOfRange_feecc cJ7_copyOfRange_feecc 3 (some (.array .int)) ∈ lw_good := jm_good 650 (by decide +kernel) (by decide +kernel)
theorem jw_s_cy : Cond.static yJ7_copyOfRangeInt_feecc ∈ lw_good := jm_good 652 (by decide +kernel) (by decide +kernel)
theorem jw_c_cy : Cond.code yJ7_copyOfRangeInt_feecc cJ7_copyOfRangeInt_feecc 5 (some (.array .int)) ∈ lw_good := jm_good 653 (by decide +kernel) (by decide +kernel)
theorem jw_l_co : Cond.methodLink RJ0 335 yJ0_coder_7d493 ∈ lw_good := jm_good 205 (by decide +kernel) (by decide +kernel)
theorem jw_l_la : Cond.methodLink RJ0 492 yJ0_isLatin1_aae02 ∈ lw_good := jm_good 215 (by decide +kernel) (by decide +kernel)
theorem jw_l_lc : Cond.methodLink RJ0 495 yJ1_charAt_3b067 ∈ lw_good := jm_good 219 (by decide +kernel) (by decide +kernel)
theorem jw_l_ck : Cond.methodLink RJ1 9 yJ0_checkIndex_df160 ∈ lw_good := jm_good 222 (by decide +kernel) (by decide +kernel)
theorem jw_l_pk : Cond.methodLink RJ0 1059 yJ3_checkIndex_8e157 ∈ lw_good := jm_good 227 (by decide +kernel) (by decide +kernel)
theorem jw_l_iy : Cond.methodLink RJ0 633 yJ0_indexOf_7cf53 ∈ lw_good := jm_good 289 (by decide +kernel) (by decide +kernel)
theorem jw_l_le : Cond.methodLink RJ0 505 yJ0_length_8abf5 ∈ lw_good := jm_good 293 (by decide +kernel) (by decide +kernel)
theorem jw_l_li : Cond.methodLink RJ0 637 yJ1_indexOf_4cfef ∈ lw_good := jm_good 294 (by decide +kernel) (by decide +kernel)
theorem jw_l_ce : Cond.methodLink RJ1 88 yJ1_canEncode_9a6ad ∈ lw_good := jm_good 297 (by decide +kernel) (by decide +kernel)
theorem jw_l_ma : Cond.methodLink RJ1 92 Lib.Math.max.name ∈ lw_good := jm_good 300 (by decide +kernel) (by decide +kernel)
theorem jw_l_mi : Cond.methodLink RJ1 38 Lib.Math.min.name ∈ lw_good := jm_good 303 (by decide +kernel) (by decide +kernel)
theorem jw_l_lx : Cond.methodLink RJ1 95 yJ1_indexOfChar_4cfef ∈ lw_good := jm_good 306 (by decide +kernel) (by decide +kernel)
theorem jw_l_cy : Cond.methodLink RJ7 351 yJ7_copyOfRangeInt_feecc ∈ lw_good := jm_good 651 (by decide +kernel) (by decide +kernel)
theorem jw_l_cl : Cond.methodLink RJ7 343 yJ7_checkLength_df160 ∈ lw_good := jm_good 654 (by decide +kernel) (by decide +kernel)
theorem jw_l_mj : Cond.methodLink RJ7 304 Lib.Math.min.name ∈ lw_good := jm_good 657 (by decide +kernel) (by decide +kernel)
theorem jw_l_ac : Cond.methodLink RJ7 150 arraycopyName ∈ lw_good := jm_good 658 (by decide +kernel) (by decide +kernel)
theorem jw_s_ac : Cond.static arraycopyName ∈ lw_good := jm_good 560 (by decide +kernel) (by decide +kernel)
theorem jw_t_ac : Cond.native arraycopyName ∈ lw_good := jm_good 561 (by decide +kernel) (by decide +kernel)
theorem jw_a_I : Cond.arrayClass .int ∈ lw_good := jm_good 122 (by decide +kernel) (by decide +kernel)
theorem jw_l_cn : Cond.methodLink RJ7 316 ⟨"[I", "clone", "()Ljava/lang/Object;"⟩ ∈ lw_good := jm_good 659 (by decide +kernel) (by decide +kernel)
theorem jw_m_cn : Cond.sameMethod "[I" "java/lang/Object" "clone" "()Ljava/lang/Object;" ∈ lw_good := jm_good 660 (by decide +kernel) (by decide +kernel)
theorem jw_t_cn : Cond.native ⟨"java/lang/Object", "clone", "()Ljava/lang/Object;"⟩ ∈ lw_good := jm_good 661 (by decide +kernel) (by decide +kernel)
theorem jw_i_cn : Cond.instanceMethod ⟨"java/lang/Object", "clone", "()Ljava/lang/Object;"⟩ ∈ lw_good := jm_good 662 (by decide +kernel) (by decide +kernel)
theorem jw_e_cn : Cond.selects "[I" ⟨"[I", "clone", "()Ljava/lang/Object;"⟩ ⟨"java/lang/Object", "clone", "()Ljava/lang/Object;"⟩ ∈ lw_good := jm_good 663 (by decide +kernel) (by decide +kernel)
theorem jw_k_cn : Cond.classLink RJ7 317 "[I" ∈ lw_good := jm_good 665 (by decide +kernel) (by decide +kernel)
/-! The JDK's methods over a text: they only read. -/
abbrev jN : Nat → Prop := fun _ => False
/-- the texts, and the JDK's statics -/
def jP (adK adV : Nat → Nat) (U : State) : Prop := vk_S 5 [6, 1, 1, 2, 3] pTx adK adV jN U U.heap ∧ pStat jN U U.heap
theorem jP.blind {adK adV : Nat → Nat} {U : State} {g : JFrame} {mk : MethodId} {a : Array Value} (h : jP adK adV U) : jP adK adV (U.calling g mk a) :=
  ⟨vk_S.moved (u := U) (U := U.calling g mk a) (Vm.Alike.refl U.vm) h.1, va_Z.moved (u := U) (U := U.calling g mk a) (Vm.Alike.refl U.vm) h.2.1, va_Zq.moved (u := U) (U := U.calling g mk a) (Vm.Alike.refl U.vm) h.2.2⟩
theorem jP.go {adK adV : Nat → Nat} {s U : State} (h : jP adK adV s) (hU : U.heap = s.heap) (hW : s.WarmedH U.vm) : jP adK adV U := by
  obtain ⟨h1, h2, h3⟩ := h
  unfold jP pStat
  rw [hU]
  exact ⟨h1.moved hW.alike, h2.moved hW.alike, h3.moved hW.alike⟩
theorem jP.of {adK adV : Nat → Nat} {A : Nat → Prop} {s U : State} {H : Heap} {locs : List Loc} (h : pExt adK adV A s) (hS : va_S A s.heap H locs) (hU : U.heap = H) (hW : s.WarmedH U.vm) : jP adK adV U := (pExt.go (A' := jN) h hS hU hW (fun q z => z.elim)).2.2
abbrev jR (d : Nat) : Room := { frames := d, cells := 0, slots := 0, locals := 60 * d }
/-- what doesn't change while a method of the JDK runs -/
def jX (adK adV : Nat → Nat) (p : Program) (s : State) (m : MethodId) (args : Array Value) (meth : Method) (c : Code) (y : MethodName) (cc : ByteArray) (nL : Nat) (ret : Option FieldType) : Prop :=
  p.tables.exec = Jvm.exec ∧ c.code = cc ∧ c.maxLocals = nL ∧ s.vm.findClass y.cls = some m.cls ∧ (∀ w ∈ lw_good, w.before args s = true) ∧ meth.sig.returnType = ret ∧ meth.locks = false ∧ jP adK adV s
abbrev jM (l : Launch) (adK adV : Nat → Nat) (d : Nat) (y : MethodName) (cc : ByteArray) (nL : Nat) (ret : Option FieldType) (av : List Value) (Qc : Array Value → State → Outcome → State → Prop) : Prop := Met l y (.code y cc nL ret :: lw_good) (jR d) (va_Pc av (jP adK adV)) Qc 0 0 (fun _ => False)
theorem jM_of {l : Launch} {adK adV : Nat → Nat} {d : Nat} {y : MethodName} {cc : ByteArray} {nL : Nat} {ret : Option FieldType} {av : List Value} {Qc : Array Value → State → Outcome → State → Prop} (hy : plainName y.cls = true) (hn : (lg_sl av).length ≤ nL)
    (body : ∀ (p : Program) (e : Env) (s : State) (m : MethodId) (below : List Frame) (meth : Method) (c : Code) (ls : Array Slot), jX adK adV p s m av.toArray meth c y cc nL ret → lv_has ls nL (lv_args 0 av) → W p l e (jR d) s m av.toArray below meth c s.heap [] 0 0 (MQ below Qc av.toArray s 0 0 (fun _ => False)) (F0 m 0 ls [])) : jM l adK adV d y cc nL ret av Qc := by
  refine Met.ofW (cc := cc) (maxL := nL) (ret := ret) hy rfl ?_
  intro p e s m args below meth c s₁ B hml hv
  obtain ⟨rfl, hP⟩ := hv
  have hts := atoms_spec (ws := (Cond.code y cc nL ret :: lw_good)) B.pre
  rw [lg_entry_eq]
  exact body p e s m below meth c _ ⟨B.exec, B.bytes, hml, findClass_of_methodNamed B.named, fun w h => hts w (List.mem_cons_of_mem _ h), B.returns, B.notSynchronized, hP⟩ (lv_entry av hn)
theorem jBlind {adK adV : Nat → Nat} {avc : List Value} : FrameBlind (va_Pc avc (jP adK adV)) := fun _ _ _ _ h => ⟨h.1, h.2.blind⟩
section JC
variable {p : Program} {l : Launch} {e : Env} {R : Room} {s : State} {m : MethodId} {args : Array Value} {below : List Frame} {meth : Method} {c : Code} {H : Heap} {locs : List Loc} {cells slots : Nat} {Q : State → Prop}
variable {adK adV : Nat → Nat} {cc bytes : ByteArray} {nL nc n d index pc k : Nat} {own : String} {y : MethodName} {ret : Option FieldType} {ls : Array Slot} {As rest : List Value} {post : Int32 → Prop} {postv : Unit → Prop}
/-- a call over a text -/
theorem jCV (S : CallFix p m c cc nL s args lw_good own) (hM : jM l adK adV d y bytes nc ret (.ref (adK k) :: As) (vp_Si post)) (hy : y.cls = "java/lang/String") (hl1 : Cond.methodLink own index y ∈ lw_good) (hl2 : Cond.instanceMethod y ∈ lw_good) (hl3 : Cond.selects RJ0 y y ∈ lw_good) (hl5 : Cond.code y bytes nc ret ∈ lw_good)
    (hdd : (parseMethodDescriptor y.desc).map (fun d => d.parameters.length) = some n) (hn : As.length = n) (hR : d + 1 ≤ R.frames ∧ 60 * d + 60 ≤ R.locals ∧ nc ≤ 6) (hc : cells ≤ R.cells ∧ slots ≤ R.slots)
    (hrecv : ∃ cellB : Cell, H[adK k]? = some cellB ∧ cellB.vm.isStatics = false ∧ s.vm.findClass "java/lang/String" = some cellB.cls) (hU : ∀ U : State, U.heap = H → s.WarmedH U.vm → jP adK adV U)
    (hsz : ls.size = nL) (hcat : (rest.map fun v => v.category).sum ≤ 8) (hd : decode cc pc = .ok (.invokevirtual index, 3))
    (kk : ∀ r : Int32, post r → W p l e R s m args below meth c H locs cells slots Q (F0 m (pc + 3) ls (.int r :: rest))) : W p l e R s m args below meth c H locs cells slots Q (F0 m pc ls (As.reverse ++ .ref (adK k) :: rest)) := by
  have hG : GoodIn lw_good (wsV own index RJ0 y (Cond.code y bytes nc ret :: lw_good)) := by
    refine good_in (fun w hw => ?_)
    rcases List.mem_append.mp hw with h9 | h9
    · simp only [List.mem_cons, List.not_mem_nil, or_false] at h9
      rcases h9 with rfl | rfl | rfl | rfl
      · exact hl1
      · exact hl2
      · exact hl3
      · exact jw_n_J0
    · rcases List.mem_cons.mp h9 with rfl | h9
      · exact hl5
      · exact h9
  refine vp_callSi (W.runV (C := RJ0) (nL := nL) (bytes := bytes) (maxL := nc) (ret := ret) (As := As) (b := adK k) S hM (cwV n S.2.2.2.2 hG rfl rfl rfl ⟨hy, by rw [hy]; decide, by rw [hy]; decide, hdd⟩ ⟨by show d + 1 ≤ R.frames; omega, by show 8 + (nc + 11) + 60 * d ≤ R.locals; omega⟩) ⟨jBlind, hrecv, fun U h1 h2 => ⟨rfl, hU U h1 h2⟩⟩ rfl hn hsz rfl (lv_room hcat) hd hc) kk
theorem jRS {Qc : Array Value → State → Outcome → State → Prop} (S : CallFix p m c cc nL s args lw_good own) (hM : jM l adK adV d y bytes nc ret As Qc) (hl1 : Cond.methodLink own index y ∈ lw_good) (hl2 : Cond.static y ∈ lw_good) (hl4 : Cond.initialized y.cls ∈ lw_good) (hl5 : Cond.code y bytes nc ret ∈ lw_good)
    (hdd : y.cls ≠ "java/lang/invoke/MethodHandle" ∧ y.cls ≠ "java/lang/invoke/VarHandle" ∧ (parseMethodDescriptor y.desc).map (fun d => d.parameters.length) = some n) (hn : As.length = n) (hR : d + 1 ≤ R.frames ∧ 60 * d + 60 ≤ R.locals ∧ nc ≤ 6) (hc : cells ≤ R.cells ∧ slots ≤ R.slots)
    (hU : ∀ U : State, U.heap = H → s.WarmedH U.vm → jP adK adV U)
    (hsz : ls.size = nL) (hcat : (rest.map fun v => v.category).sum ≤ 8) (hd : decode cc pc = .ok (.invokestatic index, 3)) : CallRun p l e R s m args below meth c H locs cells slots 0 0 (F0 m pc ls (As.reverse ++ rest)) rest (Qc As.toArray) (fun _ => False) :=
  W.runS (nL := nL) (bytes := bytes) (maxL := nc) (ret := ret) (As := As) S hM ⟨callB_of n S.2.2.2.2 (good_in (fun w hw => by rcases List.mem_cons.mp hw with rfl | hw; exact hl5; exact hw)) rfl rfl rfl (S.2.2.2.2 _ hl4) (S.2.2.2.2 _ hl1) hdd ⟨by show d + 1 ≤ R.frames; omega, by show 8 + (nc + 11) + 60 * d ≤ R.locals; omega⟩, S.2.2.2.2 _ hl2⟩ ⟨jBlind, fun U h1 h2 => ⟨rfl, hU U h1 h2⟩⟩ rfl hn hsz rfl (lv_room hcat) hd hc
end JC
section JM
variable {l : Launch} {adK adV : Nat → Nat}
theorem jRecv {s : State} {k : Nat} (hE : jP adK adV s) (hk : k < 5) : ∃ cellB : Cell, s.heap[adK k]? = some cellB ∧ cellB.vm.isStatics = false ∧ s.vm.findClass "java/lang/String" = some cellB.cls := by
  obtain ⟨cell, h1, h2, h3, -⟩ := (hE.1.1 k hk).1
  exact ⟨cell, h1, h2, h3⟩
/-- String.coder() -/
theorem j_coder {k : Nat} (hk : k < 5) : jM l adK adV 0 yJ0_coder_7d493 cJ0_coder_7d493 1 (some .byte) [.ref (adK k)] (vp_Si (fun r => r = 0)) := by
  refine jM_of (by decide) (Nat.le_of_ble_eq_true rfl) ?_
  intro p e s m below meth c ls ⟨hx, hb, hml, hown, hts, hret, hlk, hE⟩ hl
  refine va_gets (A := jN) hx hb hE.2.1 va_S.rf hown (hts _ jw_f_cs) (fun x h => h) (by decide +kernel) ?_
  refine lv_if_eq (tgt := 13) (off := 10) hx hb (by decide +kernel) (by decide) (fun h => absurd h (by decide)) (fun _ => ?_)
  refine lv_aload_n hx hb (k := 0) (by decide +kernel) rfl (lv_at hl 0 rfl) ?_
  refine vk_getf (A := jN) hx hb (hE.1.1 k hk).2.1 va_S.rf hown (hts _ jw_f_co) (fun x h => h) (by decide +kernel) ?_
  refine lv_goto (tgt := 14) (off := 4) hx hb (by decide +kernel) (by decide) ?_
  exact W.zret (v := 0) hx hb hret rfl (fun t ht hW => ⟨0, rfl, rfl, ht⟩) (fun q hq => by cases hq) (by decide +kernel)
/-- String.isLatin1() -/
theorem j_latin {k : Nat} (hk : k < 5) : jM l adK adV 0 yJ0_isLatin1_aae02 cJ0_isLatin1_aae02 1 (some .boolean) [.ref (adK k)] (vp_Si (fun r => r = 1)) := by
  refine jM_of (by decide) (Nat.le_of_ble_eq_true rfl) ?_
  intro p e s m below meth c ls ⟨hx, hb, hml, hown, hts, hret, hlk, hE⟩ hl
  refine va_gets (A := jN) hx hb hE.2.1 va_S.rf hown (hts _ jw_f_cs) (fun x h => h) (by decide +kernel) ?_
  refine lv_if_eq (tgt := 17) (off := 14) hx hb (by decide +kernel) (by decide) (fun h => absurd h (by decide)) (fun _ => ?_)
  refine lv_aload_n hx hb (k := 0) (by decide +kernel) rfl (lv_at hl 0 rfl) ?_
  refine vk_getf (A := jN) hx hb (hE.1.1 k hk).2.1 va_S.rf hown (hts _ jw_f_co) (fun x h => h) (by decide +kernel) ?_
  refine lv_if_ne (tgt := 17) (off := 7) hx hb (by decide +kernel) (by decide) (fun h => absurd rfl h) (fun _ => ?_)
  refine lv_iconst (n := 1) (v := 1) hx hb (by decide +kernel) rfl ?_
  refine lv_goto (tgt := 18) (off := 4) hx hb (by decide +kernel) (by decide) ?_
  exact W.zret (v := 1) hx hb hret rfl (fun t ht hW => ⟨1, rfl, rfl, ht⟩) (fun q hq => by cases hq) (by decide +kernel)
def jLen (k : Nat) : Nat := ([6, 1, 1, 2, 3] : List Nat).getD k 0
def jTx (k j : Nat) : Int32 := (pTx.getD k []).getD j 0
theorem jLen_lt {k : Nat} (hk : k < 5) : jLen k ≤ 6 := (show ∀ k, k < 5 → jLen k ≤ 6 by decide) k hk
theorem jShr {k : Nat} (hk : k < 5) : (nI (jLen k)) >>> ((0 : Int32) &&& 31) = nI (jLen k) := (show ∀ k, k < 5 → (nI (jLen k)) >>> ((0 : Int32) &&& 31) = nI (jLen k) by decide) k hk
/-- String.length() -/
theorem j_length {k : Nat} (hk : k < 5) : jM l adK adV 1 yJ0_length_8abf5 cJ0_length_8abf5 1 (some .int) [.ref (adK k)] (vp_Si (fun r => r = nI (jLen k))) := by
  refine jM_of (by decide) (Nat.le_of_ble_eq_true rfl) ?_
  intro p e s m below meth c ls ⟨hx, hb, hml, hown, hts, hret, hlk, hE⟩ hl
  refine lv_aload_n hx hb (k := 0) (by decide +kernel) rfl (lv_at hl 0 rfl) ?_
  refine vk_getf (A := jN) hx hb (hE.1.1 k hk).2.2.1 va_S.rf hown (hts _ jw_f_va) (fun x h => h) (by decide +kernel) ?_
  refine va_tlen (A := jN) (v := nI (jLen k)) hx hb (hE.1.1 k hk).2.2.2 va_S.rf rfl (by decide +kernel) ?_
  refine lv_aload_n hx hb (k := 0) (by decide +kernel) rfl (lv_at hl 0 rfl) ?_
  refine jCV (As := []) (n := 0) ⟨hx, hb, hml, hown, hts⟩ (j_coder hk) rfl jw_l_co jw_i_co jw_e_co jw_c_co (by decide +kernel) rfl ⟨by decide, by decide, by decide⟩ ⟨Nat.le_refl _, Nat.le_refl _⟩ (jRecv hE hk) (fun U h1 h2 => hE.go h1 h2) hl.1 (Nat.le_of_ble_eq_true rfl) (by decide +kernel) (fun r hr => ?_)
  subst hr
  refine lv_ishr hx hb (by decide +kernel) ?_
  rw [jShr hk]
  exact W.iret hx hb hret (fun t ht hW => ⟨_, rfl, rfl, ht⟩) (fun q hq => by cases hq) (by decide +kernel)
/-- Preconditions.checkIndex -/
theorem j_pcheck {j n : Int32} {w : Value} (h0 : ¬ j < 0) (hj : j < n) (hw : w = .null ∨ ∃ a, w = .ref a) : jM l adK adV 0 yJ3_checkIndex_8e157 cJ3_checkIndex_8e157 3 (some .int) [.int j, .int n, w] (vp_Si (fun r => True)) := by
  have hn : (lg_sl [.int j, .int n, w]).length ≤ 3 := by rcases hw with rfl | ⟨a, rfl⟩ <;> exact Nat.le_of_ble_eq_true rfl
  refine jM_of (by decide) hn ?_
  intro p e s m below meth c ls ⟨hx, hb, hml, hown, hts, hret, hlk, hE⟩ hl
  refine lv_iload_n hx hb (k := 0) (by decide +kernel) rfl (lv_at hl 0 rfl) ?_
  refine lv_if_lt (tgt := 9) (off := 8) hx hb (by decide +kernel) (by decide) (fun h => absurd h h0) (fun _ => ?_)
  refine lv_iload_n hx hb (k := 0) (by decide +kernel) rfl (lv_at hl 0 rfl) ?_
  refine lv_iload_n hx hb (k := 1) (by decide +kernel) rfl (lv_at hl 1 rfl) ?_
  refine lv_icmp_lt (tgt := 16) (off := 10) hx hb (by decide +kernel) (by decide) (fun _ => ?_) (fun h => absurd hj h)
  refine lv_iload_n hx hb (k := 0) (by decide +kernel) rfl (lv_at hl 0 rfl) ?_
  exact W.iret hx hb hret (fun t ht hW => ⟨_, rfl, trivial, ht⟩) (fun q hq => by cases hq) (by decide +kernel)
/-- String.checkIndex -/
theorem j_check {j n : Int32} (h0 : ¬ j < 0) (hj : j < n) : jM l adK adV 1 yJ0_checkIndex_df160 cJ0_checkIndex_df160 2 none [.int j, .int n] (va_Sv (fun _ => True)) := by
  refine jM_of (by decide) (Nat.le_of_ble_eq_true rfl) ?_
  intro p e s m below meth c ls ⟨hx, hb, hml, hown, hts, hret, hlk, hE⟩ hl
  refine lv_iload_n hx hb (k := 0) (by decide +kernel) rfl (lv_at hl 0 rfl) ?_
  refine lv_iload_n hx hb (k := 1) (by decide +kernel) rfl (lv_at hl 1 rfl) ?_
  have key : ∀ w : Value, (w = .null ∨ ∃ a, w = .ref a) → W p l e (jR 1) s m ([.int j, .int n] : List Value).toArray below meth c s.heap [] 0 0 (MQ below (va_Sv (fun _ => True)) ([.int j, .int n] : List Value).toArray s 0 0 (fun _ => False)) (F0 m 5 ls [w, .int n, .int j]) := by
    intro w hw
    refine vp_callSi (jRS (As := [.int j, .int n, w]) (n := 3) (rest := []) ⟨hx, hb, hml, hown, hts⟩ (j_pcheck h0 hj hw) jw_l_pk jw_s_pk jw_n_J3 jw_c_pk ⟨by decide, by decide, by decide +kernel⟩ rfl ⟨by decide, by decide, by decide⟩ ⟨Nat.le_refl _, Nat.le_refl _⟩ (fun U h1 h2 => hE.go h1 h2) hl.1 (Nat.le_of_ble_eq_true rfl) (by decide +kernel)) (fun r _ => ?_)
    refine lv_pop hx hb (by decide +kernel) rfl ?_
    exact W.vret hx hb hret (fun t ht hW => ⟨rfl, trivial, ht⟩) (fun q hq => by cases hq) (by decide +kernel)
  rcases hE.2.2 with hz | ⟨a, hz⟩
  · exact va_gets (A := jN) hx hb hz va_S.rf hown (hts _ jw_f_sf) (fun x h => h) (by decide +kernel) (key _ (Or.inl rfl))
  · exact va_gets (A := jN) hx hb hz va_S.rf hown (hts _ jw_f_sf) (fun x h => h) (by decide +kernel) (key _ (Or.inr ⟨a, rfl⟩))
theorem jTx_char : ∀ k, k < 5 → ∀ j, j < jLen k → (((jTx k j) &&& 255).toUInt32 % 65536).toInt32 = jTx k j ∧ narrow .char (.int (jTx k j)) = .int (jTx k j) := by decide +kernel
theorem jIn {k : Nat} (hk : k < 5) {j : Int32} (hj : vp_in j (jLen k)) : ¬ j < 0 ∧ j < nI (jLen k) ∧ j.toNatClampNeg < jLen k := by
  have h0 : ¬ j < 0 := fun q => hj (Or.inl q)
  have h1 : j.toNatClampNeg < jLen k := Nat.not_le.mp fun q => hj (Or.inr q)
  refine ⟨h0, ?_, h1⟩
  obtain ⟨n, hn, rfl⟩ := nI_of h0
  have hl := jLen_lt hk
  rw [nI_clamp hn] at h1
  exact nI_lt h1 (by omega)
/-- StringLatin1.charAt -/
theorem j_lchar {k : Nat} (hk : k < 5) {j : Int32} (hj : vp_in j (jLen k)) : jM l adK adV 2 yJ1_charAt_3b067 cJ1_charAt_3b067 2 (some .char) [.ref (adV k), .int j] (vp_Si (fun r => r = jTx k j.toNatClampNeg)) := by
  refine jM_of (by decide) (Nat.le_of_ble_eq_true rfl) ?_
  intro p e s m below meth c ls ⟨hx, hb, hml, hown, hts, hret, hlk, hE⟩ hl
  obtain ⟨g1, g2, g3⟩ := jIn hk hj
  obtain ⟨e1, e2⟩ := jTx_char k hk _ g3
  refine lv_iload_n hx hb (k := 1) (by decide +kernel) rfl (lv_at hl 1 rfl) ?_
  refine lv_aload_n hx hb (k := 0) (by decide +kernel) rfl (lv_at hl 0 rfl) ?_
  refine va_tlen (A := jN) (v := nI (jLen k)) hx hb (hE.1.1 k hk).2.2.2 va_S.rf rfl (by decide +kernel) ?_
  refine va_csv (jRS (As := [.int j, .int (nI (jLen k))]) (n := 2) (rest := []) ⟨hx, hb, hml, hown, hts⟩ (j_check g1 g2) jw_l_ck jw_s_ck jw_n_J0 jw_c_ck ⟨by decide, by decide, by decide +kernel⟩ rfl ⟨by decide, by decide, by decide⟩ ⟨Nat.le_refl _, Nat.le_refl _⟩ (fun U h1 h2 => hE.go h1 h2) hl.1 (Nat.le_of_ble_eq_true rfl) (by decide +kernel)) (fun _ => ?_)
  refine lv_aload_n hx hb (k := 0) (by decide +kernel) rfl (lv_at hl 0 rfl) ?_
  refine lv_iload_n hx hb (k := 1) (by decide +kernel) rfl (lv_at hl 1 rfl) ?_
  refine va_tb (A := jN) (v := .int (jTx k j.toNatClampNeg)) hx hb (hE.1.1 k hk).2.2.2 va_S.rf hj rfl (by decide +kernel) ?_
  refine lv_sipush (n := 255) (v := 255) hx hb (by decide +kernel) (by decide) ?_
  refine lv_iand hx hb (by decide +kernel) ?_
  refine lv_i2c hx hb (by decide +kernel) e1 ?_
  exact W.zret hx hb hret e2 (fun t ht hW => ⟨_, rfl, rfl, ht⟩) (fun q hq => by cases hq) (by decide +kernel)
/-- String.charAt -/
theorem j_char {k : Nat} (hk : k < 5) {j : Int32} (hj : vp_in j (jLen k)) : jM l adK adV 3 yJ0_charAt_5068e cJ0_charAt_5068e 2 (some .char) [.ref (adK k), .int j] (vp_Si (fun r => r = jTx k j.toNatClampNeg)) := by
  refine jM_of (by decide) (Nat.le_of_ble_eq_true rfl) ?_
  intro p e s m below meth c ls ⟨hx, hb, hml, hown, hts, hret, hlk, hE⟩ hl
  obtain ⟨g1, g2, g3⟩ := jIn hk hj
  obtain ⟨e1, e2⟩ := jTx_char k hk _ g3
  refine lv_aload_n hx hb (k := 0) (by decide +kernel) rfl (lv_at hl 0 rfl) ?_
  refine jCV (As := []) (n := 0) ⟨hx, hb, hml, hown, hts⟩ (j_latin hk) rfl jw_l_la jw_i_la jw_e_la jw_c_la (by decide +kernel) rfl ⟨by decide, by decide, by decide⟩ ⟨Nat.le_refl _, Nat.le_refl _⟩ (jRecv hE hk) (fun U h1 h2 => hE.go h1 h2) hl.1 (Nat.le_of_ble_eq_true rfl) (by decide +kernel) (fun r hr => ?_)
  subst hr
  refine lv_if_eq (tgt := 16) (off := 12) hx hb (by decide +kernel) (by decide) (fun h => absurd h (by decide)) (fun _ => ?_)
  refine lv_aload_n hx hb (k := 0) (by decide +kernel) rfl (lv_at hl 0 rfl) ?_
  refine vk_getf (A := jN) hx hb (hE.1.1 k hk).2.2.1 va_S.rf hown (hts _ jw_f_va) (fun x h => h) (by decide +kernel) ?_
  refine lv_iload_n hx hb (k := 1) (by decide +kernel) rfl (lv_at hl 1 rfl) ?_
  refine vp_callSi (jRS (As := [.ref (adV k), .int j]) (n := 2) (rest := []) ⟨hx, hb, hml, hown, hts⟩ (j_lchar hk hj) jw_l_lc jw_s_lc jw_n_J1 jw_c_lc ⟨by decide, by decide, by decide +kernel⟩ rfl ⟨by decide, by decide, by decide⟩ ⟨Nat.le_refl _, Nat.le_refl _⟩ (fun U h1 h2 => hE.go h1 h2) hl.1 (Nat.le_of_ble_eq_true rfl) (by decide +kernel)) (fun r hr => ?_)
  subst hr
  exact W.zret hx hb hret e2 (fun t ht hW => ⟨_, rfl, rfl, ht⟩) (fun q hq => by cases hq) (by decide +kernel)
/-- StringLatin1.canEncode -/
theorem j_can {x : Int32} : jM l adK adV 0 yJ1_canEncode_9a6ad cJ1_canEncode_9a6ad 1 (some .boolean) [.int x] (vp_Si (fun r => (r = 1 ∧ ¬ x < 0 ∧ ¬ 255 < x) ∨ (r = 0 ∧ (x < 0 ∨ 255 < x)))) := by
  refine jM_of (by decide) (Nat.le_of_ble_eq_true rfl) ?_
  intro p e s m below meth c ls ⟨hx, hb, hml, hown, hts, hret, hlk, hE⟩ hl
  refine lv_iload_n hx hb (k := 0) (by decide +kernel) rfl (lv_at hl 0 rfl) ?_
  refine lv_if_lt (tgt := 15) (off := 14) hx hb (by decide +kernel) (by decide) (fun h => ?_) (fun h0 => ?_)
  · refine lv_iconst (n := 0) (v := 0) hx hb (by decide +kernel) rfl ?_
    exact W.zret hx hb hret rfl (fun t ht hW => ⟨_, rfl, Or.inr ⟨rfl, Or.inl h⟩, ht⟩) (fun q hq => by cases hq) (by decide +kernel)
  · refine lv_iload_n hx hb (k := 0) (by decide +kernel) rfl (lv_at hl 0 rfl) ?_
    refine lv_sipush (n := 255) (v := 255) hx hb (by decide +kernel) (by decide) ?_
    refine lv_icmp_gt (tgt := 15) (off := 7) hx hb (by decide +kernel) (by decide) (fun h => ?_) (fun h1 => ?_)
    · refine lv_iconst (n := 0) (v := 0) hx hb (by decide +kernel) rfl ?_
      exact W.zret hx hb hret rfl (fun t ht hW => ⟨_, rfl, Or.inr ⟨rfl, Or.inr h⟩, ht⟩) (fun q hq => by cases hq) (by decide +kernel)
    · refine lv_iconst (n := 1) (v := 1) hx hb (by decide +kernel) rfl ?_
      refine lv_goto (tgt := 16) (off := 4) hx hb (by decide +kernel) (by decide) ?_
      exact W.zret hx hb hret rfl (fun t ht hW => ⟨_, rfl, Or.inl ⟨rfl, h0, h1⟩, ht⟩) (fun q hq => by cases hq) (by decide +kernel)
theorem jByte : ∀ k, k < 5 → ∀ j, j < jLen k → ∀ c, c < 256 → (jTx k j = (nI c).toInt8.toInt32 ↔ jTx k j = nI c) := by decide +kernel
theorem jTx_drop : ∀ k, k < 5 → ∀ j, j < jLen k → (pTx.getD k []).drop j = jTx k j :: (pTx.getD k []).drop (j + 1) := by decide +kernel
theorem jTx_end : ∀ k, k < 5 → (pTx.getD k []).drop (jLen k) = [] := by decide +kernel
/-- StringLatin1.indexOfChar -/
theorem j_loop {k : Nat} (hk : k < 5) {x : Nat} (hx0 : x < 256) : jM l adK adV 0 yJ1_indexOfChar_4cfef cJ1_indexOfChar_4cfef 6 (some .int) [.ref (adV k), .int (nI x), .int 0, .int (nI (jLen k))] (vp_Si (fun r => r = pIx (nI x) (pTx.getD k []) 0)) := by
  refine jM_of (by decide) (Nat.le_of_ble_eq_true rfl) ?_
  intro p e s m below meth c ls ⟨hx, hb, hml, hown, hts, hret, hlk, hE⟩ hl
  refine lv_iload_n hx hb (k := 1) (by decide +kernel) rfl (lv_at hl 1 rfl) ?_
  refine lv_i2b hx hb (by decide +kernel) rfl ?_
  refine lv_istore hx hb (i := 4) (by decide +kernel) hl (by decide) rfl (fun ls1 hl1 => ?_)
  refine lv_iload_n hx hb (k := 2) (by decide +kernel) rfl (lv_at hl1 3 rfl) ?_
  refine lv_istore hx hb (i := 5) (by decide +kernel) hl1 (by decide) rfl (fun ls2 hl2 => ?_)
  have key : ∀ (n j : Nat), j + n = jLen k → ∀ ls' : Array Slot, lv_has ls' 6 [(5, .int (nI j)), (4, .int (nI x).toInt8.toInt32), (0, .ref (adV k)), (1, .int (nI x)), (2, .int 0), (3, .int (nI (jLen k)))] → pIx (nI x) ((pTx.getD k []).drop j) j = pIx (nI x) (pTx.getD k []) 0 → W p l e (jR 0) s m ([.ref (adV k), .int (nI x), .int 0, .int (nI (jLen k))] : List Value).toArray below meth c s.heap [] 0 0 (MQ below (vp_Si (fun r => r = pIx (nI x) (pTx.getD k []) 0)) ([.ref (adV k), .int (nI x), .int 0, .int (nI (jLen k))] : List Value).toArray s 0 0 (fun _ => False)) (F0 m 7 ls' []) := by
    intro n
    induction n with
    | zero =>
      intro j hj ls' hl' hr
      have hj2 : j = jLen k := by omega
      subst hj2
      refine lv_iload hx hb (i := 5) (by decide +kernel) (lv_at hl' 0 rfl) ?_
      refine lv_iload_n hx hb (k := 3) (by decide +kernel) rfl (lv_at hl' 5 rfl) ?_
      refine lv_icmp_ge (tgt := 31) (off := 21) hx hb (by decide +kernel) (by decide) (fun _ => ?_) (fun h => absurd (Int32.le_refl _) h)
      refine lv_iconst (n := -1) (v := -1) hx hb (by decide +kernel) rfl ?_
      rw [jTx_end k hk] at hr
      exact W.iret hx hb hret (fun t ht hW => ⟨_, rfl, hr, ht⟩) (fun q hq => by cases hq) (by decide +kernel)
    | succ n ih =>
      intro j hj ls' hl' hr
      have hjl : j < jLen k := by omega
      have hl6 := jLen_lt hk
      refine lv_iload hx hb (i := 5) (by decide +kernel) (lv_at hl' 0 rfl) ?_
      refine lv_iload_n hx hb (k := 3) (by decide +kernel) rfl (lv_at hl' 5 rfl) ?_
      refine lv_icmp_ge (tgt := 31) (off := 21) hx hb (by decide +kernel) (by decide) (fun h => absurd h (nI_ge hjl (by omega))) (fun _ => ?_)
      refine lv_aload_n hx hb (k := 0) (by decide +kernel) rfl (lv_at hl' 2 rfl) ?_
      refine lv_iload hx hb (i := 5) (by decide +kernel) (lv_at hl' 0 rfl) ?_
      refine va_tb (A := jN) (v := .int (jTx k j)) hx hb (hE.1.1 k hk).2.2.2 va_S.rf (vp_in_nI hjl (Nat.lt_of_le_of_lt (jLen_lt hk) (by decide))) (by rw [nI_clamp (by omega)]; rfl) (by decide +kernel) ?_
      refine lv_iload hx hb (i := 4) (by decide +kernel) (lv_at hl' 1 rfl) ?_
      rw [jTx_drop k hk j hjl, pIx] at hr
      refine lv_icmp_ne (tgt := 25) (off := 6) hx hb (by decide +kernel) (by decide) (fun h => ?_) (fun h => ?_)
      · refine lv_iinc (n := 1) (k := 0) (v := nI (j + 1)) hx hb (i := 5) (by decide +kernel) hl' rfl (nI_succ j).symm (by decide) rfl (fun ls3 hl3 => ?_)
        refine lv_goto (tgt := 7) (off := -21) hx hb (by decide +kernel) (by decide) ?_
        refine ih (j + 1) (by omega) ls3 hl3 ?_
        rw [if_neg (fun z => h ((jByte k hk j hjl x hx0).mpr z))] at hr
        exact hr
      · rw [if_pos ((jByte k hk j hjl x hx0).mp h)] at hr
        refine lv_iload hx hb (i := 5) (by decide +kernel) (lv_at hl' 0 rfl) ?_
        exact W.iret hx hb hret (fun t ht hW => ⟨_, rfl, hr, ht⟩) (fun q hq => by cases hq) (by decide +kernel)
  exact key (jLen k) 0 (by omega) ls2 hl2 rfl
theorem jIx_out : ∀ (k : Nat), k < 5 → ∀ x : Int32, (x < 0 ∨ 255 < x) → pIx x (pTx.getD k []) 0 = -1 := by
  intro k hk x hx
  have hne : ∀ b ∈ pTx.getD k [], ¬ b = x := by
    have h1 : ∀ b ∈ pTx.getD k [], ¬ b < 0 ∧ ¬ 255 < b := (show ∀ k, k < 5 → ∀ b ∈ pTx.getD k [], ¬ b < 0 ∧ ¬ 255 < b by decide +kernel) k hk
    intro b hb e
    subst e
    rcases hx with h | h
    · exact (h1 b hb).1 h
    · exact (h1 b hb).2 h
  have go : ∀ (t : List Int32) (j : Nat), (∀ b ∈ t, ¬ b = x) → pIx x t j = -1 := by
    intro t
    induction t with
    | nil => intro j _; rfl
    | cons b t ih => intro j h; rw [pIx, if_neg (h b List.mem_cons_self)]; exact ih (j + 1) (fun b hb => h b (List.mem_cons_of_mem _ hb))
  exact go _ 0 hne
/-- StringLatin1.indexOf -/
theorem j_lix {k : Nat} (hk : k < 5) {x : Int32} : jM l adK adV 1 yJ1_indexOf_4cfef cJ1_indexOf_4cfef 4 (some .int) [.ref (adV k), .int x, .int 0, .int (nI (jLen k))] (vp_Si (fun r => r = pIx x (pTx.getD k []) 0)) := by
  refine jM_of (by decide) (Nat.le_of_ble_eq_true rfl) ?_
  intro p e s m below meth c ls ⟨hx, hb, hml, hown, hts, hret, hlk, hE⟩ hl
  have hl6 := jLen_lt hk
  have h1l : 0 < jLen k := (show ∀ k, k < 5 → 0 < jLen k by decide) k hk
  refine lv_iload_n hx hb (k := 1) (by decide +kernel) rfl (lv_at hl 1 rfl) ?_
  refine vp_callSi (jRS (As := [.int x]) (n := 1) (rest := []) ⟨hx, hb, hml, hown, hts⟩ j_can jw_l_ce jw_s_ce jw_n_J1 jw_c_ce ⟨by decide, by decide, by decide +kernel⟩ rfl ⟨by decide, by decide, by decide⟩ ⟨Nat.le_refl _, Nat.le_refl _⟩ (fun U h1 h2 => hE.go h1 h2) hl.1 (Nat.le_of_ble_eq_true rfl) (by decide +kernel)) (fun r hr => ?_)
  rcases hr with ⟨rfl, h0, h1⟩ | ⟨rfl, h0⟩
  · obtain ⟨n, hn, rfl⟩ := nI_of h0
    have h256 : n < 256 := by
      rcases Nat.lt_or_ge n 256 with q | q
      · exact q
      · exact absurd (nI_lt (a := 255) (b := n) (by omega) hn) h1
    refine lv_if_ne (tgt := 9) (off := 5) hx hb (by decide +kernel) (by decide) (fun _ => ?_) (fun h => absurd h (by decide))
    refine lv_iload_n hx hb (k := 2) (by decide +kernel) rfl (lv_at hl 2 rfl) ?_
    refine lv_iconst (n := 0) (v := 0) hx hb (by decide +kernel) rfl ?_
    refine va_mmax hx hb (hml.trans hl.1.symm) hown (hts _ jw_l_ma) (hts _ jw_s_ma) (hts _ jw_n_Ma) (hts _ jw_c_ma) (by decide) (by decide) (Nat.le_refl _) (Nat.le_refl _) (by decide +kernel) ?_
    rw [if_neg (by decide)]
    refine lv_istore_n hx hb (k := 2) (by decide +kernel) rfl hl (by decide) rfl (fun ls1 hl1 => ?_)
    refine lv_iload_n hx hb (k := 3) (by decide +kernel) rfl (lv_at hl1 3 rfl) ?_
    refine lv_aload_n hx hb (k := 0) (by decide +kernel) rfl (lv_at hl1 1 rfl) ?_
    refine va_tlen (A := jN) (v := nI (jLen k)) hx hb (hE.1.1 k hk).2.2.2 va_S.rf rfl (by decide +kernel) ?_
    refine va_mmin hx hb (hml.trans hl1.1.symm) hown (hts _ jw_l_mi) (hts _ jw_s_mi) (hts _ jw_n_Ma) (hts _ jw_c_mi) (by decide) (by decide) (Nat.le_refl _) (Nat.le_refl _) (by decide +kernel) ?_
    rw [ite_self]
    refine lv_istore_n hx hb (k := 3) (by decide +kernel) rfl hl1 (by decide) rfl (fun ls2 hl2 => ?_)
    refine lv_iload_n hx hb (k := 2) (by decide +kernel) rfl (lv_at hl2 1 rfl) ?_
    refine lv_iload_n hx hb (k := 3) (by decide +kernel) rfl (lv_at hl2 0 rfl) ?_
    refine lv_icmp_lt (tgt := 29) (off := 5) hx hb (by decide +kernel) (by decide) (fun _ => ?_) (fun h => absurd (nI_lt (a := 0) h1l (by omega)) h)
    refine lv_aload_n hx hb (k := 0) (by decide +kernel) rfl (lv_at hl2 2 rfl) ?_
    refine lv_iload_n hx hb (k := 1) (by decide +kernel) rfl (lv_at hl2 3 rfl) ?_
    refine lv_iload_n hx hb (k := 2) (by decide +kernel) rfl (lv_at hl2 1 rfl) ?_
    refine lv_iload_n hx hb (k := 3) (by decide +kernel) rfl (lv_at hl2 0 rfl) ?_
    refine vp_callSi (jRS (As := [.ref (adV k), .int (nI n), .int 0, .int (nI (jLen k))]) (n := 4) (rest := []) ⟨hx, hb, hml, hown, hts⟩ (j_loop hk h256) jw_l_lx jw_s_lx jw_n_J1 jw_c_lx ⟨by decide, by decide, by decide +kernel⟩ rfl ⟨by decide, by decide, by decide⟩ ⟨Nat.le_refl _, Nat.le_refl _⟩ (fun U h1 h2 => hE.go h1 h2) hl2.1 (Nat.le_of_ble_eq_true rfl) (by decide +kernel)) (fun r hr => ?_)
    exact W.iret hx hb hret (fun t ht hW => ⟨_, rfl, hr, ht⟩) (fun q hq => by cases hq) (by decide +kernel)
  · refine lv_if_ne (tgt := 9) (off := 5) hx hb (by decide +kernel) (by decide) (fun h => absurd rfl h) (fun _ => ?_)
    refine lv_iconst (n := -1) (v := -1) hx hb (by decide +kernel) rfl ?_
    exact W.iret hx hb hret (fun t ht hW => ⟨_, rfl, (jIx_out k hk x h0).symm, ht⟩) (fun q hq => by cases hq) (by decide +kernel)
/-- String.indexOf(int, int) from 0 -/
theorem j_iy {k : Nat} (hk : k < 5) {x : Int32} : jM l adK adV 2 yJ0_indexOf_7cf53 cJ0_indexOf_7cf53 3 (some .int) [.ref (adK k), .int x, .int 0] (vp_Si (fun r => r = pIx x (pTx.getD k []) 0)) := by
  refine jM_of (by decide) (Nat.le_of_ble_eq_true rfl) ?_
  intro p e s m below meth c ls ⟨hx, hb, hml, hown, hts, hret, hlk, hE⟩ hl
  refine lv_aload_n hx hb (k := 0) (by decide +kernel) rfl (lv_at hl 0 rfl) ?_
  refine jCV (As := []) (n := 0) ⟨hx, hb, hml, hown, hts⟩ (j_latin hk) rfl jw_l_la jw_i_la jw_e_la jw_c_la (by decide +kernel) rfl ⟨by decide, by decide, by decide⟩ ⟨Nat.le_refl _, Nat.le_refl _⟩ (jRecv hE hk) (fun U h1 h2 => hE.go h1 h2) hl.1 (Nat.le_of_ble_eq_true rfl) (by decide +kernel) (fun r hr => ?_)
  subst hr
  refine lv_if_eq (tgt := 23) (off := 19) hx hb (by decide +kernel) (by decide) (fun h => absurd h (by decide)) (fun _ => ?_)
  refine lv_aload_n hx hb (k := 0) (by decide +kernel) rfl (lv_at hl 0 rfl) ?_
  refine vk_getf (A := jN) hx hb (hE.1.1 k hk).2.2.1 va_S.rf hown (hts _ jw_f_va) (fun x h => h) (by decide +kernel) ?_
  refine lv_iload_n hx hb (k := 1) (by decide +kernel) rfl (lv_at hl 1 rfl) ?_
  refine lv_iload_n hx hb (k := 2) (by decide +kernel) rfl (lv_at hl 2 rfl) ?_
  refine lv_aload_n hx hb (k := 0) (by decide +kernel) rfl (lv_at hl 0 rfl) ?_
  refine jCV (As := []) (n := 0) ⟨hx, hb, hml, hown, hts⟩ (j_length hk) rfl jw_l_le jw_i_le jw_e_le jw_c_le (by decide +kernel) rfl ⟨by decide, by decide, by decide⟩ ⟨Nat.le_refl _, Nat.le_refl _⟩ (jRecv hE hk) (fun U h1 h2 => hE.go h1 h2) hl.1 (Nat.le_of_ble_eq_true rfl) (by decide +kernel) (fun r hr => ?_)
  subst hr
  refine vp_callSi (jRS (As := [.ref (adV k), .int x, .int 0, .int (nI (jLen k))]) (n := 4) (rest := []) ⟨hx, hb, hml, hown, hts⟩ (j_lix hk) jw_l_li jw_s_li jw_n_J1 jw_c_li ⟨by decide, by decide, by decide +kernel⟩ rfl ⟨by decide, by decide, by decide⟩ ⟨Nat.le_refl _, Nat.le_refl _⟩ (fun U h1 h2 => hE.go h1 h2) hl.1 (Nat.le_of_ble_eq_true rfl) (by decide +kernel)) (fun r hr => ?_)
  refine lv_goto (tgt := 36) (off := 16) hx hb (by decide +kernel) (by decide) ?_
  exact W.iret hx hb hret (fun t ht hW => ⟨_, rfl, hr, ht⟩) (fun q hq => by cases hq) (by decide +kernel)
/-- String.indexOf(int) -/
theorem j_ix {k : Nat} (hk : k < 5) {x : Int32} : jM l adK adV 3 yJ0_indexOf_0f7a4 cJ0_indexOf_0f7a4 2 (some .int) [.ref (adK k), .int x] (vp_Si (fun r => r = pIx x (pTx.getD k []) 0)) := by
  refine jM_of (by decide) (Nat.le_of_ble_eq_true rfl) ?_
  intro p e s m below meth c ls ⟨hx, hb, hml, hown, hts, hret, hlk, hE⟩ hl
  refine lv_aload_n hx hb (k := 0) (by decide +kernel) rfl (lv_at hl 0 rfl) ?_
  refine lv_iload_n hx hb (k := 1) (by decide +kernel) rfl (lv_at hl 1 rfl) ?_
  refine lv_iconst (n := 0) (v := 0) hx hb (by decide +kernel) rfl ?_
  refine jCV (As := [.int x, .int 0]) (n := 2) (rest := []) ⟨hx, hb, hml, hown, hts⟩ (j_iy hk) rfl jw_l_iy jw_i_iy jw_e_iy jw_c_iy (by decide +kernel) rfl ⟨by decide, by decide, by decide⟩ ⟨Nat.le_refl _, Nat.le_refl _⟩ (jRecv hE hk) (fun U h1 h2 => hE.go h1 h2) hl.1 (Nat.le_of_ble_eq_true rfl) (by decide +kernel) (fun r hr => ?_)
  exact W.iret hx hb hret (fun t ht hW => ⟨_, rfl, hr, ht⟩) (fun q hq => by cases hq) (by decide +kernel)
end JM
