/-! FlexTerms: reads, drops, turns, back. -/
theorem parse_le : ∀ (l : List Int32) (i : Nat) (σ : pS) (j : Nat), parse l i σ = .inl j → j ≤ i + l.length
  | [], i, σ, j, h => by
    rw [parse] at h
    split at h
    · cases h
    · cases h; simp
  | c :: r, i, σ, j, h => by
    rw [parse] at h
    rw [List.length_cons]
    split at h
    · have := parse_le r _ σ j h; omega
    · cases hp : pst σ c with
      | none => rw [hp] at h; cases h; omega
      | some σ' => rw [hp] at h; have := parse_le r _ σ' j h; omega
theorem nI_nm1 {n : Nat} (h : n < 2147483648) : ¬ nI n = -1 := fun e => nneg h (by rw [e]; decide)
section FC
variable {sc : List Int32} {X : pX} {B : pB} {Q : pQ} {hn : Int32} {H : Nat → Eq7} {T : TxT} {a b : Eq7} {P Bo : PaT} {G : GrT} {Se : SeT} {W : WrT} {c1 c2 c3 : Int32} {E : List (List Int32)}
/-- a call on the search that forgets -/
theorem c_forget (hX : Cl sc X) (hB : 1 ≤ B.1) {me n : Nat} {ls : pL} {ra : List Value} (hq : X B me n ls [] (FW ra hn H T a b P Bo G (Se.1, Se.2.1, Se.2.2.1, Se.2.2.2.1, Se.2.2.2.2.1, 0) W c1 c2 c3 []) Q) : oCallV 63 7 1 1 n X B me ls [.ref 65] (FW ra hn H T a b P Bo G Se W c1 c2 c3 []) Q := by
  refine And.intro trivial (cMs rfS [.ref 0] (SeW a.1 a.2.1 a.2.2.1 a.2.2.2.1 a.2.2.2.2.1 a.2.2.2.2.2.1 a.2.2.2.2.2.2 P.1 P.2.1 P.2.2 Bo.1 Bo.2.1 Bo.2.2 G.1 G.2.1 G.2.2.1 G.2.2.2.1 G.2.2.2.2.1 G.2.2.2.2.2.1 G.2.2.2.2.2.2.1 G.2.2.2.2.2.2.2.1 G.2.2.2.2.2.2.2.2.1 G.2.2.2.2.2.2.2.2.2 Se.1 Se.2.1 Se.2.2.1 Se.2.2.2.1 Se.2.2.2.2.1 Se.2.2.2.2.2) (fun _ : Unit => True) (fun _ => none) (fun _ => SeW a.1 a.2.1 a.2.2.1 a.2.2.2.1 a.2.2.2.2.1 a.2.2.2.2.2.1 a.2.2.2.2.2.2 P.1 P.2.1 P.2.2 Bo.1 Bo.2.1 Bo.2.2 G.1 G.2.1 G.2.2.1 G.2.2.2.1 G.2.2.2.2.1 G.2.2.2.2.2.1 G.2.2.2.2.2.2.1 G.2.2.2.2.2.2.2.1 G.2.2.2.2.2.2.2.2.1 G.2.2.2.2.2.2.2.2.2 Se.1 Se.2.1 Se.2.2.1 Se.2.2.2.1 Se.2.2.2.2.1 0) (fun _ => FW ra hn H T a b P Bo G (Se.1, Se.2.1, Se.2.2.1, Se.2.2.2.1, Se.2.2.2.2.1, 0) W c1 c2 c3 []) (by omega) rfl rfl rfl (fun _ => rfl) (fun _ => rfl) (fun _ => rfl) (fun Q' hQ' => t_forget hX (hQ' () trivial)) (fun _ _ => hq))
theorem c_count (hX : Cl sc X) (hB : 1 ≤ B.1) {me n : Nat} {ls : pL} {ra : List Value} {k : Nat} (hk : k < 2147483648) (he : a.2.2.2.2.2.1 = nI k) (hq : X B me n ls [.int (nI (k / 2))] (FW ra hn H T a b P Bo G Se W c1 c2 c3 []) Q) : oCallV 19 2 1 1 n X B me ls [.ref 4] (FW ra hn H T a b P Bo G Se W c1 c2 c3 []) Q := by
  obtain ⟨L, S, N, D, C, sd, tt⟩ := a
  dsimp only at he
  subst he
  exact And.intro trivial (cMs rfN [.ref 0] (EqW L S N D C (nI k) tt) (fun _ : Unit => True) (fun _ => some (.int (nI (k / 2)))) (fun _ => EqW L S N D C (nI k) tt) (fun _ => FW ra hn H T (L, S, N, D, C, nI k, tt) b P Bo G Se W c1 c2 c3 []) (by omega) rfl rfl rfl (fun _ => rfl) (fun _ => rfl) (fun _ => rfl) (fun Q' hQ' => t_count hX hk (hQ' () trivial)) (fun _ _ => hq))
theorem f_reads_tail (hX : Cl sc X) (hB : 6 ≤ B.1) {ra : List Value} (hra : ra = fr0 ∨ ra = fr1) (hg : gE E) (hlen : len7 a) (hb : is7 E b) (hp : preA P Bo G) {i1 : Option Value}
    (hq : ∀ a P' kn sn, FIs E a P' Bo (G.1, G.2.1, G.2.2.1, G.2.2.2.1, kn, sn, G.2.2.2.2.2.2) → Q (some (.int (nI (E.length / 2)))) (FW ra hn H T a b P' Bo (G.1, G.2.1, G.2.2.1, G.2.2.2.1, kn, sn, G.2.2.2.2.2.2) (Se.1, Se.2.1, Se.2.2.1, Se.2.2.2.1, Se.2.2.2.2.1, 0) W c1 c2 c3 [])) : X B 93 33 [some (.ref 0), i1] [] (FW ra hn H T a b P Bo G Se W c1 c2 c3 []) Q := by
  obtain ⟨L, S, N, D, C, sd, tt⟩ := a
  obtain ⟨L', S', N', D', C', sd', tt'⟩ := b
  obtain ⟨hE, h1, h2⟩ := id hb
  dsimp only at hE h1 h2
  subst h1 h2
  iterate 5 refine hX ?_
  refine And.intro trivial (cMs rfNR [.ref 0, .ref 6] (Eq2W L S N D C sd tt L' S' N' D' C' (nI E.length) (nI E.flatten.length)) (fun u : List Int32 × List Int32 × List Int32 => mOK E.flatten u.1 u.2.1 u.2.2) (fun _ => none) (fun u => Eq2W L' S' u.1 u.2.1 u.2.2 (nI E.length) (nI E.flatten.length) L' S' N' D' C' (nI E.length) (nI E.flatten.length)) (fun u => FW ra hn H T (L', S', u.1, u.2.1, u.2.2, nI E.length, nI E.flatten.length) (L', S', N', D', C', nI E.length, nI E.flatten.length) P Bo G Se W c1 c2 c3 []) (by omega) rfl rfl rfl (fun _ => rfl) (fun _ => rfl) (fun _ => rfl) (fun Q' hQ' => t_copyFrom hX (by show 2 ≤ B.1 - 1; omega) hlen.1 hlen.2 hE (fun N D C h => hQ' (N, D, C) h)) (fun u hu => ?_))
  iterate 2 refine hX ?_
  refine c_arrange hX (by omega) hra hg (E := E) ⟨hE, rfl, rfl⟩ hu hp (Or.inl rfl) (fun lf rt cn kn sn hF => ?_)
  iterate 3 refine hX ?_
  refine c_forget hX (by omega) ?_
  iterate 3 refine hX ?_
  refine c_count hX (by omega) (k := E.length) (by have := hg.1.1; omega) rfl ?_
  refine hX ?_
  exact hq _ _ _ _ hF
/-- what is new after EQUATIONS changed and the search forgot -/
theorem FI_new {s : St} {f : FT} {tx : List Int32} {hs : List (List (List Int32))} {bd no fu : Nat} (hI : FIf s f) (ht : FIt tx T b) (hg : gE E) (hh : FIh hs hn H) {kn sn : List Int32} (hs2 : FIs E a P f.2.2.2.2.2.2.1 (f.2.2.2.2.2.2.2.1.1, f.2.2.2.2.2.2.2.1.2.1, f.2.2.2.2.2.2.2.1.2.2.1, f.2.2.2.2.2.2.2.1.2.2.2.1, kn, sn, f.2.2.2.2.2.2.2.1.2.2.2.2.2.2)) (h1 : c1 = nI bd) (h2 : c2 = nI no) (h3 : c3 = nI fu) : FIf (tx, E, hs, bd, no, fu) (hn, H, T, a, b, P, f.2.2.2.2.2.2.1, (f.2.2.2.2.2.2.2.1.1, f.2.2.2.2.2.2.2.1.2.1, f.2.2.2.2.2.2.2.1.2.2.1, f.2.2.2.2.2.2.2.1.2.2.2.1, kn, sn, f.2.2.2.2.2.2.2.1.2.2.2.2.2.2), (f.2.2.2.2.2.2.2.2.1.1, f.2.2.2.2.2.2.2.2.1.2.1, f.2.2.2.2.2.2.2.2.1.2.2.1, f.2.2.2.2.2.2.2.2.1.2.2.2.1, f.2.2.2.2.2.2.2.2.1.2.2.2.2.1, 0), f.2.2.2.2.2.2.2.2.2.1, c1, c2, c3) := by
  obtain ⟨i1, i2, i3, i4, ⟨bs, A, i5, -⟩, i6, i7, i8, i9⟩ := hI
  exact ⟨ht, hg, hh, hs2, ⟨bs, A, i5, Or.inl rfl⟩, i6, h1, h2, h3⟩
theorem f_reads (hX : Cl sc X) (hB : 8 ≤ B.1) {s : St} {f : FT} (hI : FIf s f) (hq0 : ∀ f', FIf (sReads s).2 f' → Q (some (.int (sReads s).1)) (FWf fr0 f' [])) (hq1 : ∀ f', FIf (sReads s).2 (rolF f') → Q (some (.int (sReads s).1)) (FWf fr1 f' [])) : X B 93 0 [some (.ref 0), none] [] (FWf fr0 f []) Q := by
  obtain ⟨hn, H, ⟨by', pl, ln, dp, aw⟩, a, ⟨L', S', N', D', C', sd', tt'⟩, P, Bo, G, Se, W, c1, c2, c3⟩ := f
  obtain ⟨⟨⟨t1, t2, t3, t4⟩, t5, t6⟩, i2, i3, i4, i5, i6, i7, i8, i9⟩ := id hI
  dsimp only at t1 t2 t3 t4 t5
  subst t4
  iterate 5 refine hX ?_
  refine And.intro trivial (cMs rfTR [.ref 0, .ref 3] (TxW by' pl (nI s.1.length) dp aw L' S' N' D' C' sd' tt') (fun w : Int32 × TxU => TxE (parse s.1 0 ([], [], [], 0)) w) (fun w => some (.int w.1)) (fun w => TxO by' (nI s.1.length) N' D' C' w.2) (fun w => FW fr0 hn H (by', w.2.1, nI s.1.length, w.2.2.1, w.2.2.2.1) a (w.2.2.2.2.1, w.2.2.2.2.2.1, N', D', C', w.2.2.2.2.2.2.1, w.2.2.2.2.2.2.2) P Bo G Se W c1 c2 c3 []) (by omega) rfl rfl rfl (fun _ => rfl) (fun _ => rfl) (fun _ => rfl) (fun Q' hQ' => t_readInto hX (by show 4 ≤ B.1 - 1; omega) t1 t2 t5 (fun w hw => hQ' w (by rw [t3] at hw; exact hw))) (fun w hw => ?_))
  obtain ⟨w1, w2⟩ := hw
  have hT : FIt s.1 (by', w.2.1, nI s.1.length, w.2.2.1, w.2.2.2.1) (w.2.2.2.2.1, w.2.2.2.2.2.1, N', D', C', w.2.2.2.2.2.2.1, w.2.2.2.2.2.2.2) := ⟨⟨t1, t2, t3, rfl⟩, w1, ⟨⟨w1.2.1, w1.2.2.1⟩, t6.2⟩⟩
  iterate 4 refine hX ?_
  cases hp : parse s.1 0 ([], [], [], 0) with
  | inl j =>
    rw [hp] at w2
    dsimp only at w2
    have hj := parse_le _ _ _ _ hp
    rw [sReads, hp] at hq0
    dsimp only at hq0
    refine And.intro (fun h => absurd (w2.symm.trans h) (nI_nm1 (by omega))) (fun _ => ?_)
    iterate 3 refine hX ?_
    rw [w2]
    refine hX ?_
    exact hq0 (hn, H, (by', w.2.1, nI s.1.length, w.2.2.1, w.2.2.2.1), a, (w.2.2.2.2.1, w.2.2.2.2.2.1, N', D', C', w.2.2.2.2.2.2.1, w.2.2.2.2.2.2.2), P, Bo, G, Se, W, c1, c2, c3) ⟨hT, i2, i3, i4, i5, i6, i7, i8, i9⟩
  | inr E =>
    rw [hp] at w2
    dsimp only at w2
    obtain ⟨w3, w4, w5, w6, w7⟩ := w2
    rw [sReads, hp] at hq0 hq1
    dsimp only at hq0 hq1
    have hg : gE E := ⟨⟨w4.1.2.2.1, w4.1.2.2.2, w5⟩, w4.2.2.2, parse_letters _ _ _ (fun d hd => by simp at hd) E hp⟩
    obtain ⟨q1, q2⟩ := i4.pre
    refine And.intro (fun _ => ?_) (fun h => absurd w3 h)
    iterate 5 refine hX ?_
    refine c_push hX (by omega) i3 i2 i4.1 (fun hn' H' hh => ?_) (fun hn' H' hh => ?_)
    · refine f_reads_tail hX (by omega) (Or.inl rfl) hg (is7_len i4.1 q2) ⟨w4, w6, w7⟩ q1 (fun a' P' kn sn hF => ?_)
      exact hq0 _ (FI_new hI hT hg hh hF i7 i8 i9)
    · refine f_reads_tail hX (by omega) (Or.inr rfl) hg (is7_len i4.1 q2) ⟨w4, w6, w7⟩ q1 (fun a' P' kn sn hF => ?_)
      exact hq1 (hn', H', _) (FI_new hI hT hg hh hF i7 i8 i9)
/-- EQUATIONS around one of them -/
theorem eq_split {E : List (List Int32)} {i : Nat} (h : i < E.length / 2) : E = E.take (2 * i) ++ E.getD (2 * i) [] :: E.getD (2 * i + 1) [] :: E.drop (2 * i + 2) ∧ (E.take (2 * i)).length = 2 * i := by
  refine ⟨?_, by rw [List.length_take]; omega⟩
  have e1 : E.drop (2 * i) = E.getD (2 * i) [] :: E.drop (2 * i + 1) := by
    rw [List.drop_eq_getElem_cons (by omega), List.getD_eq_getElem?_getD, List.getElem?_eq_getElem (by omega)]; rfl
  have e2 : E.drop (2 * i + 1) = E.getD (2 * i + 1) [] :: E.drop (2 * i + 2) := by
    rw [List.drop_eq_getElem_cons (by omega), List.getD_eq_getElem?_getD, List.getElem?_eq_getElem (by omega)]; rfl
  rw [← e2, ← e1, List.take_append_drop]
theorem gE_of {E E' : List (List Int32)} (h : gE E) (h1 : ∀ t ∈ E', t ∈ E) (h2 : E'.length ≤ E.length) (h3 : E'.flatten.length ≤ E.flatten.length) (h4 : E'.length % 2 = 0) : gE E' := by
  obtain ⟨⟨g1, g2, g3⟩, g4, g5⟩ := h
  refine ⟨⟨by omega, by omega, h4⟩, fun t ht => g4 t (h1 t ht), fun c hc => ?_⟩
  obtain ⟨t, ht, hc⟩ := List.mem_flatten.mp hc
  exact g5 c (List.mem_flatten.mpr ⟨t, h1 t ht, hc⟩)
theorem dr_ok {E : List (List Int32)} {i : Nat} (hg : gE E) (h : i < E.length / 2) : gE (drE E i) := by
  obtain ⟨e, e2⟩ := eq_split h
  have hm := hg.1.2.2
  have l1 : (E.drop (2 * i + 2)).length = E.length - (2 * i + 2) := List.length_drop
  refine gE_of hg (fun t ht => ?_) ?_ ?_ ?_
  · rw [drE, List.mem_append] at ht
    rcases ht with ht | ht
    · exact List.mem_of_mem_take ht
    · exact List.mem_of_mem_drop ht
  · rw [drE, List.length_append]; omega
  · conv => rhs; rw [e]
    rw [drE, List.flatten_append, List.flatten_append, List.length_append, List.length_append, List.flatten_cons, List.flatten_cons, List.length_append, List.length_append]
    omega
  · rw [drE, List.length_append]; omega
theorem tu_ok {E : List (List Int32)} {i : Nat} (hg : gE E) (h : i < E.length / 2) : gE (tuE E i) := by
  obtain ⟨e, e2⟩ := eq_split h
  have hm := hg.1.2.2
  have l1 : (E.drop (2 * i + 2)).length = E.length - (2 * i + 2) := List.length_drop
  refine gE_of hg (fun t ht => ?_) ?_ ?_ ?_
  · rw [tuE, List.mem_append, List.mem_cons, List.mem_cons] at ht
    rcases ht with ht | rfl | rfl | ht
    · exact List.mem_of_mem_take ht
    · exact getD_mem (by omega)
    · exact getD_mem (by omega)
    · exact List.mem_of_mem_drop ht
  · rw [tuE, List.length_append, List.length_cons, List.length_cons]; omega
  · conv => rhs; rw [e]
    rw [tuE, List.flatten_append, List.flatten_append, List.length_append, List.length_append, List.flatten_cons, List.flatten_cons, List.flatten_cons, List.flatten_cons, List.length_append, List.length_append, List.length_append, List.length_append]
    omega
  · rw [tuE, List.length_append, List.length_cons, List.length_cons]; omega
theorem slv_app (bs : List (List Nat)) : ∀ (k : Nat) (A Z : List (List Int32)), A.length = 2 * k → slv bs (A ++ Z) = (slv bs A && slv bs Z)
  | 0, A, Z, h => by rw [List.length_eq_zero_iff.mp (by omega : A.length = 0)]; simp [slv]
  | k + 1, u :: v :: A, Z, h => by
    rw [List.cons_append, List.cons_append, slv, slv, slv_app bs k A Z (by simp only [List.length_cons] at h; omega), Bool.and_assoc, Bool.and_assoc, Bool.and_assoc]
  | k + 1, [u], Z, h => by simp at h; omega
  | k + 1, [], Z, h => by simp at h
theorem slv_tu {E : List (List Int32)} {i : Nat} (h : i < E.length / 2) (bs : List (List Nat)) : slv bs (tuE E i) = slv bs E := by
  obtain ⟨e, e2⟩ := eq_split h
  conv => rhs; rw [e]
  rw [tuE, slv_app bs i _ _ e2, slv_app bs i _ _ e2, slv, slv]
  congr 2
  by_cases hh : grw bs (E.getD (2 * i) []) = grw bs (E.getD (2 * i + 1) [])
  · rw [hh]
  · rw [decide_eq_false hh, decide_eq_false (fun q : grw bs (E.getD (2 * i + 1) []) = grw bs (E.getD (2 * i) []) => hh q.symm), Bool.and_false, Bool.and_false]
theorem flat_tu {E : List (List Int32)} {i : Nat} (h : i < E.length / 2) (c : Int32) : c ∈ (tuE E i).flatten ↔ c ∈ E.flatten := by
  obtain ⟨e, e2⟩ := eq_split h
  conv => rhs; rw [e]
  rw [tuE, List.flatten_append, List.flatten_append, List.flatten_cons, List.flatten_cons, List.flatten_cons, List.flatten_cons]
  simp only [List.mem_append]
  constructor
  · rintro (h | h | h | h)
    · exact Or.inl h
    · exact Or.inr (Or.inr (Or.inl h))
    · exact Or.inr (Or.inl h)
    · exact Or.inr (Or.inr (Or.inr h))
  · rintro (h | h | h | h)
    · exact Or.inl h
    · exact Or.inr (Or.inr (Or.inl h))
    · exact Or.inr (Or.inl h)
    · exact Or.inr (Or.inr (Or.inr h))
theorem std_congr {l l' : List Int32} (h : ∀ c, c ∈ l ↔ c ∈ l') : std l = std l' := by
  rw [std, std]
  congr 1
  funext x
  have : bt (flb l 0) x = true ↔ bt (flb l' 0) x = true := by
    rw [bt_mem, bt_mem]
    exact ⟨fun ⟨c, a, b⟩ => ⟨c, (h c).mp a, b⟩, fun ⟨c, a, b⟩ => ⟨c, (h c).mpr a, b⟩⟩
  cases h1 : bt (flb l 0) x with
  | true => rw [this.mp h1]
  | false =>
    cases h2 : bt (flb l' 0) x with
    | true => rw [this.mpr h2] at h1; cases h1
    | false => rfl
theorem sols_tu {E : List (List Int32)} {i : Nat} (h : i < E.length / 2) : sols (tuE E i) = sols E := by
  rw [sols, sols, std_congr (flat_tu h)]
  congr 2
  funext bs
  exact slv_tu h bs
end FC
