/-! FlexTerms: drops, turns, back. -/
section FD
variable {sc : List Int32} {X : pX} {B : pB} {Q : pQ} {hn : Int32} {H : Nat → Eq7} {T : TxT} {a b : Eq7} {P Bo : PaT} {G : GrT} {Se : SeT} {W : WrT} {c1 c2 c3 : Int32} {E : List (List Int32)}
theorem c_has (hX : Cl sc X) (hB : 2 ≤ B.1) {me n : Nat} {ls : pL} {ra : List Value} {k : Nat} (hk : k < 2147483648) (he : a.2.2.2.2.2.1 = nI k) {e : Int32} (hq : X B me n ls [.int (hsI e (k / 2))] (FW ra hn H T a b P Bo G Se W c1 c2 c3 []) Q) : oCallV 21 2 2 2 n X B me ls [.int e, .ref 4] (FW ra hn H T a b P Bo G Se W c1 c2 c3 []) Q := by
  obtain ⟨L, S, N, D, C, sd, tt⟩ := a
  dsimp only at he
  subst he
  exact And.intro trivial (cMs rfN [.ref 0, .int e] (EqW L S N D C (nI k) tt) (fun _ : Unit => True) (fun _ => some (.int (hsI e (k / 2)))) (fun _ => EqW L S N D C (nI k) tt) (fun _ => FW ra hn H T (L, S, N, D, C, nI k, tt) b P Bo G Se W c1 c2 c3 []) (by omega) rfl rfl rfl (fun _ => rfl) (fun _ => rfl) (fun _ => rfl) (fun Q' hQ' => t_has hX (by show 1 ≤ B.1 - 1; omega) hk (hQ' () trivial)) (fun _ _ => hq))
theorem hsI_or (e : Int32) (n : Nat) : hsI e n = 0 ∨ hsI e n = 1 := by
  unfold hsI
  split
  · exact Or.inr rfl
  · exact Or.inl rfl
/-- one of the EQUATIONS, by its number -/
theorem hsI_is {e : Int32} {n : Nat} (hn : n < 2147483648) (h : hsI e n = 1) : ∃ i, e = nI i ∧ i < n ∧ e.toNatClampNeg = i := by
  unfold hsI at h
  split at h
  · rename_i hc
    have h0 : (0 : Int) ≤ e.toInt := by
      have := Int32.not_lt.mp hc.1
      have := Int32.le_iff_toInt_le.mp this
      simpa using this
    have e1 : e = nI e.toNatClampNeg := by
      apply Int32.toInt_inj.mp
      rw [nI_toInt (by have := e.toInt_lt; rw [Int32.toNatClampNeg]; omega)]
      rw [Int32.toNatClampNeg]
      omega
    refine ⟨e.toNatClampNeg, e1, ?_, rfl⟩
    have hl := hc.2
    rw [e1] at hl
    exact (nlt (by have := e.toInt_lt; rw [Int32.toNatClampNeg]; omega) hn).mp hl
  · cases h
theorem f_drops_tail (hX : Cl sc X) (hB : 6 ≤ B.1) {ra : List Value} (hra : ra = fr0 ∨ ra = fr1) (hg : gE E) (ha : is7 E a) (hm : mOK E.flatten a.2.2.1 a.2.2.2.1 a.2.2.2.2.1) (hp : preA P Bo G) {i : Nat} (hi : i < E.length / 2)
    (hq : ∀ a P' kn sn, FIs (drE E i) a P' Bo (G.1, G.2.1, G.2.2.1, G.2.2.2.1, kn, sn, G.2.2.2.2.2.2) → Q (some (.int (nI ((drE E i).length / 2)))) (FW ra hn H T a b P' Bo (G.1, G.2.1, G.2.2.1, G.2.2.2.1, kn, sn, G.2.2.2.2.2.2) (Se.1, Se.2.1, Se.2.2.1, Se.2.2.2.1, Se.2.2.2.2.1, 0) W c1 c2 c3 [])) : X B 94 29 [some (.ref 0), some (.int (nI i))] [] (FW ra hn H T a b P Bo G Se W c1 c2 c3 []) Q := by
  obtain ⟨L, S, N, D, C, sd, tt⟩ := a
  obtain ⟨hE, h1, h2⟩ := id ha
  dsimp only at hE h1 h2 hm
  subst h1 h2
  obtain ⟨e, el⟩ := eq_split hi
  have hg2 := dr_ok hg hi
  iterate 4 refine hX ?_
  refine And.intro trivial (cMs rfN [.ref 0, .int (nI i)] (EqW L S N D C (nI E.length) (nI E.flatten.length)) (fun u : List Int32 × List Int32 × List Int32 × List Int32 × List Int32 => EqInv (drE E i) u.1 u.2.1 ∧ mOK (drE E i).flatten u.2.2.1 u.2.2.2.1 u.2.2.2.2) (fun _ => none) (fun u => EqW u.1 u.2.1 u.2.2.1 u.2.2.2.1 u.2.2.2.2 (nI (drE E i).length) (nI (drE E i).flatten.length)) (fun u => FW ra hn H T (u.1, u.2.1, u.2.2.1, u.2.2.2.1, u.2.2.2.2, nI (drE E i).length, nI (drE E i).flatten.length) b P Bo G Se W c1 c2 c3 []) (by omega) rfl rfl rfl (fun _ => rfl) (fun _ => rfl) (fun _ => rfl) (fun Q' hQ' => ?_) (fun u hu => ?_))
  · have key := t_remove (B := (B.1 - 1, 0, 0)) (Q := Q') hX (by show 2 ≤ B.1 - 1; omega) (A := E.take (2 * i)) (Z := E.drop (2 * i + 2)) (u := E.getD (2 * i) []) (v := E.getD (2 * i + 1) []) (i := i) el hm.1 (by rw [← e]; exact hE) (fun L S N D C a b => hQ' (L, S, N, D, C) ⟨a, b⟩)
    rw [← e] at key
    exact key
  · iterate 2 refine hX ?_
    refine c_arrange hX (by omega) hra hg2 (E := drE E i) ⟨hu.1, rfl, rfl⟩ hu.2 hp (Or.inl rfl) (fun lf rt cn kn sn hF => ?_)
    iterate 3 refine hX ?_
    refine c_forget hX (by omega) ?_
    iterate 3 refine hX ?_
    refine c_count hX (by omega) (k := (drE E i).length) (by have := hg2.1.1; omega) rfl ?_
    refine hX ?_
    exact hq _ _ _ _ hF
theorem f_drops (hX : Cl sc X) (hB : 8 ≤ B.1) {s : St} {f : FT} (hI : FIf s f) {e : Int32} (hq0 : ∀ f', FIf (sDrops s e).2 f' → Q (some (.int (sDrops s e).1)) (FWf fr0 f' [])) (hq1 : ∀ f', FIf (sDrops s e).2 (rolF f') → Q (some (.int (sDrops s e).1)) (FWf fr1 f' [])) : X B 94 0 [some (.ref 0), some (.int e)] [] (FWf fr0 f []) Q := by
  obtain ⟨hn, H, T, a, b, P, Bo, G, Se, W, c1, c2, c3⟩ := f
  obtain ⟨i1, i2, i3, i4, i5, i6, i7, i8, i9⟩ := id hI
  have h8 := i2.1.1
  dsimp only at h8 i4
  obtain ⟨q1, q2⟩ := i4.pre
  iterate 4 refine hX ?_
  refine c_has hX (by omega) (k := s.2.1.length) (by omega) i4.1.2.1 ?_
  rcases hsI_or e (s.2.1.length / 2) with h | h
  · rw [h]
    rw [sDrops, if_neg (by rw [h]; decide)] at hq0
    refine hX (And.intro (fun _ => ?_) (fun h => absurd rfl h))
    iterate 3 refine hX ?_
    refine c_bad hX (by omega) hI (fun f' h' => ?_)
    refine hX ?_
    exact hq0 f' h'
  · rw [h]
    rw [sDrops, if_pos h] at hq0 hq1
    obtain ⟨i, rfl, hi, hc⟩ := hsI_is (by omega) h
    rw [hc] at hq0 hq1
    refine hX (And.intro (fun h => absurd h (by decide)) (fun _ => ?_))
    iterate 5 refine hX ?_
    refine c_push hX (by omega) i3 i2 i4.1 (fun hn' H' hh => ?_) (fun hn' H' hh => ?_)
    · refine f_drops_tail hX (by omega) (Or.inl rfl) i2 i4.1 q2 q1 hi (fun a' P' kn sn hF => ?_)
      exact hq0 _ (FI_new hI i1 (dr_ok i2 hi) hh hF i7 i8 i9)
    · refine f_drops_tail hX (by omega) (Or.inr rfl) i2 i4.1 q2 q1 hi (fun a' P' kn sn hF => ?_)
      exact hq1 (hn', H', _) (FI_new hI i1 (dr_ok i2 hi) hh hF i7 i8 i9)
theorem f_turns_tail (hX : Cl sc X) (hB : 7 ≤ B.1 ∧ 1 ≤ B.2.1 ∧ 40 ≤ B.2.2) {ra : List Value} (hra : ra = fr0 ∨ ra = fr1) (hg : gE E) (ha : is7 E a) (hm : mOK E.flatten a.2.2.1 a.2.2.2.1 a.2.2.2.2.1) (hp : preA P Bo G) {i : Nat} (hi : i < E.length / 2)
    (hq : ∀ a P' kn sn g, FIs (tuE E i) a P' Bo (G.1, G.2.1, G.2.2.1, G.2.2.2.1, kn, sn, G.2.2.2.2.2.2) → Q (some (.int (nI (E.getD (2 * i + 1) []).length))) (FW ra hn H T a b P' Bo (G.1, G.2.1, G.2.2.1, G.2.2.2.1, kn, sn, G.2.2.2.2.2.2) Se W c1 c2 c3 [.inl g])) : X B 95 29 [some (.ref 0), some (.int (nI i))] [] (FW ra hn H T a b P Bo G Se W c1 c2 c3 []) Q := by
  obtain ⟨b1, b2, b3⟩ := hB
  obtain ⟨L, S, N, D, C, sd, tt⟩ := a
  obtain ⟨hE, h1, h2⟩ := id ha
  dsimp only at hE h1 h2 hm
  subst h1 h2
  obtain ⟨e, el⟩ := eq_split hi
  have hg2 := tu_ok hg hi
  iterate 4 refine hX ?_
  refine And.intro trivial (cN rfN [.ref 0, .int (nI i)] (EqW L S N D C (nI E.length) (nI E.flatten.length)) 1 40 (fun u : List Int32 × List Int32 × List Int32 × List Int32 × List Int32 × List Int32 => EqInv (tuE E i) u.1 u.2.1 ∧ mOK (tuE E i).flatten u.2.2.1 u.2.2.2.1 u.2.2.2.2.1) (fun _ => none) (fun u => EqW u.1 u.2.1 u.2.2.1 u.2.2.2.1 u.2.2.2.2.1 (nI (tuE E i).length) (nI (tuE E i).flatten.length) ++ [.inl u.2.2.2.2.2]) (fun u => FW ra hn H T (u.1, u.2.1, u.2.2.1, u.2.2.2.1, u.2.2.2.2.1, nI (tuE E i).length, nI (tuE E i).flatten.length) b P Bo G Se W c1 c2 c3 [.inl u.2.2.2.2.2]) (fun _ => []) ⟨by omega, b2, b3⟩ rfl rfl rfl (fun _ => Nat.le_of_ble_eq_true rfl) (fun _ => rfl) (fun _ => rfl) (fun Q' hQ' => ?_) (fun u hu => ?_))
  · have key := t_turn (B := (B.1 - 1, 1, 40)) (Q := Q') hX ⟨by show 4 ≤ B.1 - 1; omega, Nat.le_refl _, Nat.le_refl _⟩ (A := E.take (2 * i)) (Z := E.drop (2 * i + 2)) (u := E.getD (2 * i) []) (v := E.getD (2 * i + 1) []) (i := i) el hm.1 (by rw [← e]; exact hE) (fun L S N D C g a b => hQ' (L, S, N, D, C, g) ⟨a, b⟩)
    rw [← e] at key
    exact key
  · obtain ⟨L2, S2, N2, D2, C2, g⟩ := u
    obtain ⟨u1, u2⟩ := hu
    dsimp only at u1 u2
    have h8 := u1.1.2.2.1
    have hlen : (tuE E i).length = E.length := by
      conv => rhs; rw [e]
      rw [tuE, List.length_append, List.length_append, List.length_cons, List.length_cons, List.length_cons, List.length_cons]
    have hgd : (tuE E i).getD (2 * i) [] = E.getD (2 * i + 1) [] := by
      rw [tuE, List.getD_eq_getElem?_getD, List.getElem?_append_right (by omega), el, Nat.sub_self]; rfl
    obtain ⟨xr, d1, d2⟩ := side_at u1.2.2.2 (k := 2 * i) (by omega)
    have hpp := pre_le (E := tuE E i) (2 * i)
    have hxp := okF_pos d2 (by omega)
    have hlt : pre (tuE E i) (2 * i) < (tuE E i).flatten.length := by
      have := congrArg List.length d1
      rw [List.length_drop, List.length_append] at this
      omega
    have h40 := u1.1.2.2.2
    iterate 2 refine hX ?_
    refine c_arrange (B := (B.1, B.2.1 - 1, B.2.2 - 40)) hX (by show 5 ≤ B.1; omega) hra hg2 (E := tuE E i) (a := (L2, S2, N2, D2, C2, nI (tuE E i).length, nI (tuE E i).flatten.length)) ⟨u1, rfl, rfl⟩ u2 hp (Or.inr ⟨g, rfl⟩) (fun lf rt cn kn sn hF => ?_)
    iterate 7 refine hX ?_
    refine And.intro trivial (cMs rfN [.ref 0, .int (nI i), .int (nI 0)] (EqW L2 S2 N2 D2 C2 (nI (tuE E i).length) (nI (tuE E i).flatten.length)) (fun _ : Unit => True) (fun _ => some (.int (S2.getD (2 * i + 0) 0))) (fun _ => EqW L2 S2 N2 D2 C2 (nI (tuE E i).length) (nI (tuE E i).flatten.length)) (fun _ => FW ra hn H T (L2, S2, N2, D2, C2, nI (tuE E i).length, nI (tuE E i).flatten.length) b (lf, rt, cn) Bo (G.1, G.2.1, G.2.2.1, G.2.2.2.1, kn, sn, G.2.2.2.2.2.2) Se W c1 c2 c3 [.inl g]) (by show 1 ≤ B.1; omega) rfl rfl rfl (fun _ => rfl) (fun _ => rfl) (fun _ => rfl) (fun Q' hQ' => t_start hX (by show 2 ≤ B.1 - 1; omega) h8 (by omega) (by omega) u1.1.2.1 (hQ' () trivial)) (fun _ _ => ?_))
    rw [u1.2.2.1 (2 * i + 0) (by omega), Nat.add_zero]
    refine hX (And.intro trivial (cMs rfN [.ref 0, .int (nI (pre (tuE E i) (2 * i)))] (EqW L2 S2 N2 D2 C2 (nI (tuE E i).length) (nI (tuE E i).flatten.length)) (fun _ : Unit => True) (fun _ => some (.int (N2.getD (pre (tuE E i) (2 * i)) 0))) (fun _ => EqW L2 S2 N2 D2 C2 (nI (tuE E i).length) (nI (tuE E i).flatten.length)) (fun _ => FW ra hn H T (L2, S2, N2, D2, C2, nI (tuE E i).length, nI (tuE E i).flatten.length) b (lf, rt, cn) Bo (G.1, G.2.1, G.2.2.1, G.2.2.2.1, kn, sn, G.2.2.2.2.2.2) Se W c1 c2 c3 [.inl g]) (by show 1 ≤ B.1; omega) rfl rfl rfl (fun _ => rfl) (fun _ => rfl) (fun _ => rfl) (fun Q' hQ' => t_nodesAt hX (by omega) u2.1.1 (hQ' () trivial)) (fun _ _ => ?_)))
    rw [(u2.2 _ hlt).1, d1, okF_tlen _ xr 1 d2, hgd]
    refine hX ?_
    exact hq _ _ _ _ g hF
theorem f_turns (hX : Cl sc X) (hB : 8 ≤ B.1 ∧ 1 ≤ B.2.1 ∧ 40 ≤ B.2.2) {s : St} {f : FT} (hI : FIf s f) {e : Int32} (hq0 : ∀ f' z, z = [] ∨ (∃ g, z = [Sum.inl g]) → FIf (sTurns s e).2 f' → Q (some (.int (sTurns s e).1)) (FWf fr0 f' z)) (hq1 : ∀ f' g, FIf (sTurns s e).2 (rolF f') → Q (some (.int (sTurns s e).1)) (FWf fr1 f' [.inl g])) : X B 95 0 [some (.ref 0), some (.int e)] [] (FWf fr0 f []) Q := by
  obtain ⟨b1, b2, b3⟩ := hB
  obtain ⟨hn, H, T, a, b, P, Bo, G, Se, W, c1, c2, c3⟩ := f
  obtain ⟨i1, i2, i3, i4, ⟨bs, A, i5, i5'⟩, i6, i7, i8, i9⟩ := id hI
  have h8 := i2.1.1
  dsimp only at h8 i4
  obtain ⟨q1, q2⟩ := i4.pre
  iterate 4 refine hX ?_
  refine c_has hX (by omega) (k := s.2.1.length) (by omega) i4.1.2.1 ?_
  rcases hsI_or e (s.2.1.length / 2) with h | h
  · rw [h]
    rw [sTurns, if_neg (by rw [h]; decide)] at hq0
    refine hX (And.intro (fun _ => ?_) (fun h => absurd rfl h))
    iterate 3 refine hX ?_
    refine c_bad hX (by omega) hI (fun f' h' => ?_)
    refine hX ?_
    exact hq0 f' [] (Or.inl rfl) h'
  · rw [h]
    rw [sTurns, if_pos h] at hq0 hq1
    obtain ⟨i, rfl, hi, hc⟩ := hsI_is (by omega) h
    rw [hc] at hq0 hq1
    have hk : kwn (tuE s.2.1 i) A Se := by
      rcases i5' with k | ⟨k1, k2, k3⟩
      · exact Or.inl k
      · exact Or.inr ⟨k1, by rw [sols_tu hi]; exact k2, k3⟩
    refine hX (And.intro (fun h => absurd h (by decide)) (fun _ => ?_))
    iterate 5 refine hX ?_
    refine c_push hX (by omega) i3 i2 i4.1 (fun hn' H' hh => ?_) (fun hn' H' hh => ?_)
    · refine f_turns_tail hX ⟨by omega, b2, b3⟩ (Or.inl rfl) i2 i4.1 q2 q1 hi (fun a' P' kn sn g hF => ?_)
      exact hq0 (hn', H', T, a', b, P', Bo, (G.1, G.2.1, G.2.2.1, G.2.2.2.1, kn, sn, G.2.2.2.2.2.2), Se, W, c1, c2, c3) [.inl g] (Or.inr ⟨g, rfl⟩) ⟨i1, tu_ok i2 hi, hh, hF, ⟨bs, A, i5, hk⟩, i6, i7, i8, i9⟩
    · refine f_turns_tail hX ⟨by omega, b2, b3⟩ (Or.inr rfl) i2 i4.1 q2 q1 hi (fun a' P' kn sn g hF => ?_)
      exact hq1 (hn', H', T, a', b, P', Bo, (G.1, G.2.1, G.2.2.1, G.2.2.2.1, kn, sn, G.2.2.2.2.2.2), Se, W, c1, c2, c3) g ⟨i1, tu_ok i2 hi, hh, hF, ⟨bs, A, i5, hk⟩, i6, i7, i8, i9⟩
theorem f_back (hX : Cl sc X) (hB : 8 ≤ B.1) {s : St} {f : FT} (hI : FIf s f) (hq : ∀ f', FIf (sBack s).2 f' → Q (some (.int (sBack s).1)) (FWf fr0 f' [])) : X B 105 0 [some (.ref 0)] [] (FWf fr0 f []) Q := by
  obtain ⟨hn, H, T, a, b, P, Bo, G, Se, W, c1, c2, c3⟩ := f
  obtain ⟨i1, i2, i3, i4, i5, i6, i7, i8, i9⟩ := id hI
  obtain ⟨⟨h1, h2⟩, h3, h4⟩ := id i3
  dsimp only at h1 h2 h3 h4 i4
  subst h2
  obtain ⟨q1, q2⟩ := i4.pre
  rw [sBack] at hq
  iterate 5 refine hX ?_
  by_cases h0 : s.2.2.1.length = 0
  · rw [if_pos h0] at hq
    rw [h0]
    refine And.intro trivial (cMs rfH [.ref 0, .ref 32] (HiW ra0 (nI 0) H a) (fun _ : Unit => True) (fun _ => some (.int 0)) (fun _ => HiW ra0 (nI 0) H a) (fun _ => FW fr0 (nI 0) H T a b P Bo G Se W c1 c2 c3 []) (by omega) rfl rfl rfl (fun _ => rfl) (fun _ => rfl) (fun _ => rfl) (fun Q' hQ' => t_pop0 hX (hQ' () trivial)) (fun _ _ => ?_))
    refine hX (And.intro (fun _ => ?_) (fun h => absurd rfl h))
    iterate 3 refine hX ?_
    rw [h0] at hI
    refine c_no hX (by omega) (f := (nI 0, H, T, a, b, P, Bo, G, Se, W, c1, c2, c3)) hI (fun f' h' => ?_)
    refine hX ?_
    exact hq f' h'
  · rw [if_neg h0] at hq
    obtain ⟨c, hc⟩ : ∃ c, s.2.2.1.length = c + 1 := ⟨s.2.2.1.length - 1, by omega⟩
    obtain ⟨hg, h7⟩ := h4 c (by omega)
    rw [hc] at hq ⊢
    rw [show c + 1 - 1 = c by omega] at hq
    generalize hE : s.2.2.1.getD c [] = E at hq hg h7
    refine And.intro trivial (cMs rfH [.ref 0, .ref 32] (HiW ra0 (nI (c + 1)) H a) (fun u : List Int32 × List Int32 × List Int32 => mOK E.flatten u.1 u.2.1 u.2.2) (fun _ => some (.int 1)) (fun u => HiW ra0 (nI c) H ((H c).1, (H c).2.1, u.1, u.2.1, u.2.2, nI E.length, nI E.flatten.length)) (fun u => FW fr0 (nI c) H T ((H c).1, (H c).2.1, u.1, u.2.1, u.2.2, nI E.length, nI E.flatten.length) b P Bo G Se W c1 c2 c3 []) (by omega) rfl rfl rfl (fun _ => rfl) (fun _ => rfl) (fun _ => rfl) (fun Q' hQ' => t_pop hX (by show 3 ≤ B.1 - 1; omega) (is7_len i4.1 q2) (by omega) h7 (fun N D C h => hQ' (N, D, C) h)) (fun u hu => ?_))
    refine hX (And.intro (fun h => absurd h (by decide)) (fun _ => ?_))
    iterate 2 refine hX ?_
    refine c_arrange hX (B := B) (by omega) (Or.inl rfl) hg (E := E) (a := ((H c).1, (H c).2.1, u.1, u.2.1, u.2.2, nI E.length, nI E.flatten.length)) ⟨h7.1, rfl, rfl⟩ hu q1 (Or.inl rfl) (fun lf rt cn kn sn hF => ?_)
    iterate 3 refine hX ?_
    refine c_forget hX (by omega) ?_
    iterate 3 refine hX ?_
    refine And.intro trivial (cMs rfH [.ref 0] (HiW ra0 (nI c) H ((H c).1, (H c).2.1, u.1, u.2.1, u.2.2, nI E.length, nI E.flatten.length)) (fun _ : Unit => True) (fun _ => some (.int (nI c))) (fun _ => HiW ra0 (nI c) H ((H c).1, (H c).2.1, u.1, u.2.1, u.2.2, nI E.length, nI E.flatten.length)) (fun _ => FW fr0 (nI c) H T ((H c).1, (H c).2.1, u.1, u.2.1, u.2.2, nI E.length, nI E.flatten.length) b (lf, rt, cn) Bo (G.1, G.2.1, G.2.2.1, G.2.2.2.1, kn, sn, G.2.2.2.2.2.2) (Se.1, Se.2.1, Se.2.2.1, Se.2.2.2.1, Se.2.2.2.2.1, 0) W c1 c2 c3 []) (by omega) rfl rfl rfl (fun _ => rfl) (fun _ => rfl) (fun _ => rfl) (fun Q' hQ' => ?_) (fun _ _ => ?_))
    · repeat refine hX ?_
      exact hQ' () trivial
    · refine hX ?_
      refine hq _ (FI_new (f := (nI s.2.2.1.length, H, T, a, b, P, Bo, G, Se, W, c1, c2, c3)) hI i1 hg ⟨⟨?_, ?_⟩, h3, fun i hi => ?_⟩ hF i7 i8 i9)
      · rw [List.length_take]; omega
      · show nI c = nI (s.2.2.1.take c).length
        rw [List.length_take, Nat.min_eq_left (by omega)]
      · rw [List.length_take] at hi
        rw [getD_take (by omega)]
        exact h4 i (by omega)
end FD
