/-! FlexTerms: calls that change what it holds. -/
abbrev FT : Type := Int32 × (Nat → Eq7) × TxT × Eq7 × Eq7 × PaT × PaT × GrT × SeT × WrT × Int32 × Int32 × Int32
abbrev St : Type := List Int32 × List (List Int32) × List (List (List Int32)) × Nat × Nat × Nat
def FWf (ra : List Value) (f : FT) (z : pH) : pH := FW ra f.1 f.2.1 f.2.2.1 f.2.2.2.1 f.2.2.2.2.1 f.2.2.2.2.2.1 f.2.2.2.2.2.2.1 f.2.2.2.2.2.2.2.1 f.2.2.2.2.2.2.2.2.1 f.2.2.2.2.2.2.2.2.2.1 f.2.2.2.2.2.2.2.2.2.2.1 f.2.2.2.2.2.2.2.2.2.2.2.1 f.2.2.2.2.2.2.2.2.2.2.2.2 z
def FIf (s : St) (f : FT) : Prop := FI s.1 s.2.1 s.2.2.1 s.2.2.2.1 s.2.2.2.2.1 s.2.2.2.2.2 f.1 f.2.1 f.2.2.1 f.2.2.2.1 f.2.2.2.2.1 f.2.2.2.2.2.1 f.2.2.2.2.2.2.1 f.2.2.2.2.2.2.2.1 f.2.2.2.2.2.2.2.2.1 f.2.2.2.2.2.2.2.2.2.1 f.2.2.2.2.2.2.2.2.2.2.1 f.2.2.2.2.2.2.2.2.2.2.2.1 f.2.2.2.2.2.2.2.2.2.2.2.2
def rolF (f : FT) : FT := (f.1, rol f.2.1, f.2.2)
def sBad (s : St) : Int32 × St := (-2, s.1, s.2.1, s.2.2.1, s.2.2.2.1 + 1, s.2.2.2.2)
def sNo (s : St) : Int32 × St := (-3, s.1, s.2.1, s.2.2.1, s.2.2.2.1, s.2.2.2.2.1 + 1, s.2.2.2.2.2)
def sFull (s : St) : Int32 × St := (-4, s.1, s.2.1, s.2.2.1, s.2.2.2.1, s.2.2.2.2.1, s.2.2.2.2.2 + 1)
def sType (s : St) (c : Int32) : Int32 × St := if c < 0 ∨ 127 < c then sBad s else if s.1.length = 120 then sFull s else (nI (s.1.length + 1), s.1 ++ [c], s.2)
def sClear (s : St) : Int32 × St := (nI s.1.length, [], s.2)
def psh (hs : List (List (List Int32))) (E : List (List Int32)) : List (List (List Int32)) := (if hs.length = 5 then hs.drop 1 else hs) ++ [E]
def sReads (s : St) : Int32 × St := match parse s.1 0 ([], [], [], 0) with
  | .inl i => (-10 - nI i, s)
  | .inr E => (nI (E.length / 2), s.1, E, psh s.2.2.1 s.2.1, s.2.2.2)
def drE (E : List (List Int32)) (i : Nat) : List (List Int32) := E.take (2 * i) ++ E.drop (2 * i + 2)
def tuE (E : List (List Int32)) (i : Nat) : List (List Int32) := E.take (2 * i) ++ E.getD (2 * i + 1) [] :: E.getD (2 * i) [] :: E.drop (2 * i + 2)
def sDrops (s : St) (e : Int32) : Int32 × St := if hsI e (s.2.1.length / 2) = 1 then (nI ((drE s.2.1 e.toNatClampNeg).length / 2), s.1, drE s.2.1 e.toNatClampNeg, psh s.2.2.1 s.2.1, s.2.2.2) else sBad s
def sTurns (s : St) (e : Int32) : Int32 × St := if hsI e (s.2.1.length / 2) = 1 then (nI (s.2.1.getD (2 * e.toNatClampNeg + 1) []).length, s.1, tuE s.2.1 e.toNatClampNeg, psh s.2.2.1 s.2.1, s.2.2.2) else sBad s
def sBack (s : St) : Int32 × St := if s.2.2.1.length = 0 then sNo s else (nI (s.2.2.1.length - 1), s.1, s.2.2.1.getD (s.2.2.1.length - 1) [], s.2.2.1.take (s.2.2.1.length - 1), s.2.2.2)
section FB
variable {sc : List Int32} {X : pX} {B : pB} {Q : pQ}
theorem t_refuse (hX : Cl sc X) {ra : List Value} {hn : Int32} {H : Nat → Eq7} {T : TxT} {a b : Eq7} {P Bo : PaT} {G : GrT} {Se : SeT} {W : WrT} {c1 c2 c3 y : Int32} (hq : Q (some (.int y)) (if y = -2 then FW ra hn H T a b P Bo G Se W (c1 + 1) c2 c3 [] else if y = -3 then FW ra hn H T a b P Bo G Se W c1 (c2 + 1) c3 [] else FW ra hn H T a b P Bo G Se W c1 c2 (c3 + 1) [])) : X B 112 0 [some (.ref 0), some (.int y)] [] (FW ra hn H T a b P Bo G Se W c1 c2 c3 []) Q := by
  iterate 3 refine hX ?_
  refine And.intro (fun h => ?_) (fun h => ?_)
  · rw [if_pos h] at hq
    iterate 9 refine hX ?_
    exact hq
  · rw [if_neg h] at hq
    iterate 3 refine hX ?_
    refine And.intro (fun h2 => ?_) (fun h2 => ?_)
    · rw [if_pos h2] at hq
      iterate 9 refine hX ?_
      exact hq
    · rw [if_neg h2] at hq
      iterate 8 refine hX ?_
      exact hq
/-- a refused call, from where it is refused -/
theorem c_bad (hX : Cl sc X) (hB : 1 ≤ B.1) {me n : Nat} {ls : pL} {s : St} {f : FT} (hI : FIf s f) (hq : ∀ f', FIf (sBad s).2 f' → X B me n ls [.int (-2)] (FWf fr0 f' []) Q) : oCallV 112 10 2 2 n X B me ls [.int (-2), .ref 0] (FWf fr0 f []) Q := by
  obtain ⟨hn, H, T, a, b, P, Bo, G, Se, W, c1, c2, c3⟩ := f
  obtain ⟨i1, i2, i3, i4, i5, i6, i7, i8, i9⟩ := hI
  refine And.intro trivial (cMw [.ref 0, .int (-2)] (fun _ : Unit => True) (fun _ => some (.int (-2))) (fun _ => FW fr0 hn H T a b P Bo G Se W (c1 + 1) c2 c3 []) (by omega) rfl rfl (fun _ => rfl) (fun _ => rfl) (fun _ => rfl) (fun Q' hQ' => t_refuse hX (by rw [if_pos rfl]; exact hQ' () trivial)) (fun _ _ => ?_))
  exact hq (hn, H, T, a, b, P, Bo, G, Se, W, c1 + 1, c2, c3) ⟨i1, i2, i3, i4, i5, i6, by rw [show c1 = _ from i7]; exact (nI_succ _).symm, i8, i9⟩
theorem c_no (hX : Cl sc X) (hB : 1 ≤ B.1) {me n : Nat} {ls : pL} {s : St} {f : FT} (hI : FIf s f) (hq : ∀ f', FIf (sNo s).2 f' → X B me n ls [.int (-3)] (FWf fr0 f' []) Q) : oCallV 112 10 2 2 n X B me ls [.int (-3), .ref 0] (FWf fr0 f []) Q := by
  obtain ⟨hn, H, T, a, b, P, Bo, G, Se, W, c1, c2, c3⟩ := f
  obtain ⟨i1, i2, i3, i4, i5, i6, i7, i8, i9⟩ := hI
  refine And.intro trivial (cMw [.ref 0, .int (-3)] (fun _ : Unit => True) (fun _ => some (.int (-3))) (fun _ => FW fr0 hn H T a b P Bo G Se W c1 (c2 + 1) c3 []) (by omega) rfl rfl (fun _ => rfl) (fun _ => rfl) (fun _ => rfl) (fun Q' hQ' => t_refuse hX (by rw [if_neg (by decide), if_pos rfl]; exact hQ' () trivial)) (fun _ _ => ?_))
  exact hq (hn, H, T, a, b, P, Bo, G, Se, W, c1, c2 + 1, c3) ⟨i1, i2, i3, i4, i5, i6, i7, by rw [show c2 = _ from i8]; exact (nI_succ _).symm, i9⟩
theorem c_full (hX : Cl sc X) (hB : 1 ≤ B.1) {me n : Nat} {ls : pL} {s : St} {f : FT} (hI : FIf s f) (hq : ∀ f', FIf (sFull s).2 f' → X B me n ls [.int (-4)] (FWf fr0 f' []) Q) : oCallV 112 10 2 2 n X B me ls [.int (-4), .ref 0] (FWf fr0 f []) Q := by
  obtain ⟨hn, H, T, a, b, P, Bo, G, Se, W, c1, c2, c3⟩ := f
  obtain ⟨i1, i2, i3, i4, i5, i6, i7, i8, i9⟩ := hI
  refine And.intro trivial (cMw [.ref 0, .int (-4)] (fun _ : Unit => True) (fun _ => some (.int (-4))) (fun _ => FW fr0 hn H T a b P Bo G Se W c1 c2 (c3 + 1) []) (by omega) rfl rfl (fun _ => rfl) (fun _ => rfl) (fun _ => rfl) (fun Q' hQ' => t_refuse hX (by rw [if_neg (by decide), if_neg (by decide)]; exact hQ' () trivial)) (fun _ _ => ?_))
  exact hq (hn, H, T, a, b, P, Bo, G, Se, W, c1, c2, c3 + 1) ⟨i1, i2, i3, i4, i5, i6, i7, i8, by rw [show c3 = _ from i9]; exact (nI_succ _).symm⟩
theorem f_type (hX : Cl sc X) (hB : 3 ≤ B.1) {s : St} {f : FT} (hI : FIf s f) {c : Int32} (hq : ∀ f', FIf (sType s c).2 f' → Q (some (.int (sType s c).1)) (FWf fr0 f' [])) : X B 91 0 [some (.ref 0), some (.int c)] [] (FWf fr0 f []) Q := by
  have bad : (c < 0 ∨ 127 < c) → X B 91 10 [some (.ref 0), some (.int c)] [] (FWf fr0 f []) Q := by
    intro h
    rw [sType, if_pos h] at hq
    iterate 3 refine hX ?_
    refine c_bad hX (by omega) hI (fun f' h' => ?_)
    refine hX ?_
    exact hq f' h'
  iterate 2 refine hX ?_
  refine And.intro (fun h => bad (Or.inl h)) (fun h => ?_)
  iterate 3 refine hX ?_
  refine And.intro (fun h2 => ?_) (fun h2 => bad (Or.inr (Int32.not_le.mp h2)))
  have hno : ¬ (c < 0 ∨ 127 < c) := fun q => q.elim h (fun q => absurd q (Int32.not_lt.mpr h2))
  rw [sType, if_neg hno] at hq
  obtain ⟨hn, H, ⟨by', pl, ln, dp, aw⟩, a, b, P, Bo, G, Se, W, c1, c2, c3⟩ := f
  obtain ⟨⟨⟨t1, t2, t3, t4⟩, t5⟩, i2, i3, i4, i5, i6, i7, i8, i9⟩ := id hI
  dsimp only at t1 t2 t3 t4
  subst t4
  iterate 4 refine hX ?_
  refine And.intro trivial (cMs rfT [.ref 0, .int c] (Tx0 by' pl (nI s.1.length) dp aw) (fun u : Bool × List Int32 × Int32 => (u.1 = false ∧ s.1.length = 120 ∧ u.2 = (by', nI s.1.length)) ∨ (u.1 = true ∧ s.1.length < 120 ∧ u.2 = (by'.set s.1.length c, nI (s.1.length + 1)))) (fun u => some (.int (if u.1 then 1 else 0))) (fun u => Tx0 u.2.1 pl u.2.2 dp aw) (fun u => FW fr0 hn H (u.2.1, pl, u.2.2, dp, aw) a b P Bo G Se W c1 c2 c3 []) (by omega) rfl rfl rfl (fun _ => rfl) (fun _ => rfl) (fun _ => rfl) (fun Q' hQ' => t_tappend hX t1 t2 (fun h => hQ' (false, by', nI s.1.length) (Or.inl ⟨rfl, h, rfl⟩)) (fun h => hQ' (true, by'.set s.1.length c, nI (s.1.length + 1)) (Or.inr ⟨rfl, h, rfl⟩))) (fun u hu => ?_))
  obtain ⟨ok, by2, ln2⟩ := u
  rcases hu with ⟨h1, h3, h4⟩ | ⟨h1, h3, h4⟩
  · dsimp only at h1 h4
    subst h1
    cases h4
    rw [if_pos h3] at hq
    refine hX (And.intro (fun _ => ?_) (fun h => absurd rfl h))
    iterate 3 refine hX ?_
    refine c_full hX (by omega) (f := (hn, H, (by', pl, nI s.1.length, dp, aw), a, b, P, Bo, G, Se, W, c1, c2, c3)) hI (fun f' h' => ?_)
    refine hX ?_
    exact hq f' h'
  · dsimp only at h1 h4
    subst h1
    cases h4
    rw [if_neg (by omega)] at hq
    refine hX (And.intro (fun h => absurd h (show ¬ ((1 : Int32) = 0) by decide)) (fun _ => ?_))
    iterate 3 refine hX ?_
    refine And.intro trivial (cMs rfT [.ref 0] (Tx0 (by'.set s.1.length c) pl (nI (s.1.length + 1)) dp aw) (fun _ : Unit => True) (fun _ => some (.int (nI (s.1.length + 1)))) (fun _ => Tx0 (by'.set s.1.length c) pl (nI (s.1.length + 1)) dp aw) (fun _ => FW fr0 hn H (by'.set s.1.length c, pl, nI (s.1.length + 1), dp, aw) a b P Bo G Se W c1 c2 c3 []) (by omega) rfl rfl rfl (fun _ => rfl) (fun _ => rfl) (fun _ => rfl) (fun Q' hQ' => t_tlength hX (hQ' () trivial)) (fun _ _ => ?_))
    iterate 2 refine hX ?_
    refine hq (hn, H, (by'.set s.1.length c, pl, nI (s.1.length + 1), dp, aw), a, b, P, Bo, G, Se, W, c1, c2, c3) ⟨⟨⟨?_, ?_, ?_, ?_⟩, t5⟩, i2, i3, i4, i5, i6, i7, i8, i9⟩
    · show (s.1 ++ [c]).length ≤ 120
      rw [List.length_append, List.length_singleton]; omega
    · show (by'.set s.1.length c).length = 120
      rw [List.length_set]; exact t2
    · show (by'.set s.1.length c).take (s.1 ++ [c]).length = s.1 ++ [c]
      rw [List.length_append, List.length_singleton, take_set (by omega), t3]
    · show nI (s.1.length + 1) = nI (s.1 ++ [c]).length
      rw [List.length_append, List.length_singleton]
theorem f_clear (hX : Cl sc X) (hB : 3 ≤ B.1) {s : St} {f : FT} (hI : FIf s f) (hq : ∀ f', FIf (sClear s).2 f' → Q (some (.int (sClear s).1)) (FWf fr0 f' [])) : X B 92 0 [some (.ref 0), none] [] (FWf fr0 f []) Q := by
  obtain ⟨hn, H, ⟨by', pl, ln, dp, aw⟩, a, b, P, Bo, G, Se, W, c1, c2, c3⟩ := f
  obtain ⟨⟨⟨t1, t2, t3, t4⟩, t5⟩, i2, i3, i4, i5, i6, i7, i8, i9⟩ := id hI
  dsimp only at t1 t2 t3 t4
  subst t4
  iterate 3 refine hX ?_
  refine And.intro trivial (cMs rfT [.ref 0] (Tx0 by' pl (nI s.1.length) dp aw) (fun _ : Unit => True) (fun _ => some (.int (nI s.1.length))) (fun _ => Tx0 by' pl (nI s.1.length) dp aw) (fun _ => FW fr0 hn H (by', pl, nI s.1.length, dp, aw) a b P Bo G Se W c1 c2 c3 []) (by omega) rfl rfl rfl (fun _ => rfl) (fun _ => rfl) (fun _ => rfl) (fun Q' hQ' => t_tlength hX (hQ' () trivial)) (fun _ _ => ?_))
  iterate 4 refine hX ?_
  refine And.intro trivial (cMs rfT [.ref 0] (Tx0 by' pl (nI s.1.length) dp aw) (fun _ : Unit => True) (fun _ => none) (fun _ => Tx0 by' pl 0 dp aw) (fun _ => FW fr0 hn H (by', pl, 0, dp, aw) a b P Bo G Se W c1 c2 c3 []) (by omega) rfl rfl rfl (fun _ => rfl) (fun _ => rfl) (fun _ => rfl) (fun Q' hQ' => t_terase hX (hQ' () trivial)) (fun _ _ => ?_))
  iterate 2 refine hX ?_
  exact hq (hn, H, (by', pl, 0, dp, aw), a, b, P, Bo, G, Se, W, c1, c2, c3) ⟨⟨⟨Nat.zero_le _, t2, rfl, rfl⟩, t5⟩, i2, i3, i4, i5, i6, i7, i8, i9⟩
/-- EQUATIONS are kept before they change -/
theorem c_push (hX : Cl sc X) (hB : 4 ≤ B.1) {me n : Nat} {ls : pL} {hs : List (List (List Int32))} {E : List (List Int32)} {hn : Int32} {H : Nat → Eq7} {T : TxT} {a b : Eq7} {P Bo : PaT} {G : GrT} {Se : SeT} {W : WrT} {c1 c2 c3 : Int32} (hh : FIh hs hn H) (hg : gE E) (ha : is7 E a)
    (hq0 : ∀ hn' H', FIh (psh hs E) hn' H' → X B me n ls [] (FW fr0 hn' H' T a b P Bo G Se W c1 c2 c3 []) Q) (hq1 : ∀ hn' H', FIh (psh hs E) hn' (rol H') → X B me n ls [] (FW fr1 hn' H' T a b P Bo G Se W c1 c2 c3 []) Q) : oCallV 46 4 2 4 n X B me ls [.ref 4, .ref 16] (FW fr0 hn H T a b P Bo G Se W c1 c2 c3 []) Q := by
  obtain ⟨⟨h1, rfl⟩, h2, h3⟩ := hh
  have hv : ∀ N D C, mOK E.flatten N D C → len7 (a.1, a.2.1, N, D, C, nI E.length, nI E.flatten.length) ∧ is7 E (a.1, a.2.1, N, D, C, nI E.length, nI E.flatten.length) := fun N D C hm => ⟨⟨⟨ha.1.1.1, ha.1.1.2.1⟩, hm.1⟩, ha.1, rfl, rfl⟩
  by_cases h5 : hs.length = 5
  · rw [h5]
    refine And.intro trivial (cMs rfH [.ref 0, .ref 32] (HiW ra0 (nI 5) H a) (fun u : List Int32 × List Int32 × List Int32 => mOK E.flatten u.1 u.2.1 u.2.2) (fun _ => none) (fun u => HiW ra1 (nI 5) (updH H 0 (a.1, a.2.1, u.1, u.2.1, u.2.2, nI E.length, nI E.flatten.length)) a) (fun u => FW fr1 (nI 5) (updH H 0 (a.1, a.2.1, u.1, u.2.1, u.2.2, nI E.length, nI E.flatten.length)) T a b P Bo G Se W c1 c2 c3 []) (by omega) rfl rfl rfl (fun _ => rfl) (fun _ => rfl) (fun _ => rfl) (fun Q' hQ' => t_push1 hX (by show 3 ≤ B.1 - 1; omega) h2 ha (fun N D C h => hQ' (N, D, C) h)) (fun u hu => ?_))
    obtain ⟨v1, v2⟩ := hv u.1 u.2.1 u.2.2 hu
    have hlen : (psh hs E).length = 5 := by rw [psh, if_pos h5, List.length_append, List.length_drop, h5]; rfl
    refine hq1 _ _ ⟨⟨by omega, by rw [hlen]⟩, fun i hi => ?_, fun i hi => ?_⟩
    · rcases (show i = 0 ∨ i = 1 ∨ i = 2 ∨ i = 3 ∨ i = 4 by omega) with rfl | rfl | rfl | rfl | rfl
      · exact h2 1 (by omega)
      · exact h2 2 (by omega)
      · exact h2 3 (by omega)
      · exact h2 4 (by omega)
      · exact v1
    · rw [hlen] at hi
      have e1 : ∀ j, j < 4 → (psh hs E).getD j [] = hs.getD (j + 1) [] := fun j hj => by
        rw [psh, if_pos h5, getD_app1 (by rw [List.length_drop]; omega), List.getD_eq_getElem?_getD, List.getD_eq_getElem?_getD, List.getElem?_drop, Nat.add_comm]
      have e2 : (psh hs E).getD 4 [] = E := by
        have := getD_app2 (l := hs.drop 1) (a := E) (d := [])
        rw [List.length_drop, h5] at this
        rw [psh, if_pos h5]; exact this
      rcases (show i = 0 ∨ i = 1 ∨ i = 2 ∨ i = 3 ∨ i = 4 by omega) with rfl | rfl | rfl | rfl | rfl
      · rw [e1 0 (by omega)]; exact h3 1 (by omega)
      · rw [e1 1 (by omega)]; exact h3 2 (by omega)
      · rw [e1 2 (by omega)]; exact h3 3 (by omega)
      · rw [e1 3 (by omega)]; exact h3 4 (by omega)
      · rw [e2]; exact ⟨hg, v2⟩
  · have h4 : hs.length < 5 := by omega
    have hlen : (psh hs E).length = hs.length + 1 := by rw [psh, if_neg h5, List.length_append, List.length_singleton]
    have fin : ∀ N D C, mOK E.flatten N D C → FIh (psh hs E) (nI (hs.length + 1)) (updH H hs.length (a.1, a.2.1, N, D, C, nI E.length, nI E.flatten.length)) := by
      intro N D C hm
      obtain ⟨v1, v2⟩ := hv N D C hm
      refine ⟨⟨by omega, by rw [hlen]⟩, fun i hi => ?_, fun i hi => ?_⟩
      · rw [updH]
        cases hb : Nat.beq i hs.length with
        | true => exact v1
        | false => exact h2 i hi
      · rw [updH]
        cases hb : Nat.beq i hs.length with
        | true =>
          have := Nat.eq_of_beq_eq_true hb
          subst this
          rw [psh, if_neg h5, getD_app2]
          exact ⟨hg, v2⟩
        | false =>
          have hne : ¬ i = hs.length := Nat.ne_of_beq_eq_false hb
          rw [psh, if_neg h5, getD_app1 (by omega)]
          exact h3 i (by omega)
    have go : ∀ c, c < 5 → (∀ N D C, mOK E.flatten N D C → FIh (psh hs E) (nI (c + 1)) (updH H c (a.1, a.2.1, N, D, C, nI E.length, nI E.flatten.length))) → oCallV 46 4 2 4 n X B me ls [.ref 4, .ref 16] (FW fr0 (nI c) H T a b P Bo G Se W c1 c2 c3 []) Q := by
      intro c hc hf
      refine And.intro trivial (cMs rfH [.ref 0, .ref 32] (HiW ra0 (nI c) H a) (fun u : List Int32 × List Int32 × List Int32 => mOK E.flatten u.1 u.2.1 u.2.2) (fun _ => none) (fun u => HiW ra0 (nI (c + 1)) (updH H c (a.1, a.2.1, u.1, u.2.1, u.2.2, nI E.length, nI E.flatten.length)) a) (fun u => FW fr0 (nI (c + 1)) (updH H c (a.1, a.2.1, u.1, u.2.1, u.2.2, nI E.length, nI E.flatten.length)) T a b P Bo G Se W c1 c2 c3 []) (by omega) rfl rfl rfl (fun _ => rfl) (fun _ => rfl) (fun _ => rfl) (fun Q' hQ' => t_push0 hX (by show 3 ≤ B.1 - 1; omega) h2 ha hc (fun N D C h => hQ' (N, D, C) h)) (fun u hu => ?_))
      exact hq0 _ _ (hf u.1 u.2.1 u.2.2 hu)
    exact go hs.length h4 fin
theorem c_arrange (hX : Cl sc X) (hB : 5 ≤ B.1) {me n : Nat} {ls : pL} {E : List (List Int32)} {ra : List Value} (hra : ra = fr0 ∨ ra = fr1) {hn : Int32} {H : Nat → Eq7} {T : TxT} {a b : Eq7} {P Bo : PaT} {G : GrT} {Se : SeT} {W : WrT} {c1 c2 c3 : Int32} (hg : gE E) (ha : is7 E a) (hm : mOK E.flatten a.2.2.1 a.2.2.2.1 a.2.2.2.2.1) (hp : preA P Bo G) {z : pH} (hz : z = [] ∨ ∃ g, z = [.inl g])
    (hq : ∀ lf rt cn kn sn, FIs E a (lf, rt, cn) Bo (G.1, G.2.1, G.2.2.1, G.2.2.2.1, kn, sn, G.2.2.2.2.2.2) → X B me n ls [] (FW ra hn H T a b (lf, rt, cn) Bo (G.1, G.2.1, G.2.2.1, G.2.2.2.1, kn, sn, G.2.2.2.2.2.2) Se W c1 c2 c3 z) Q) : oCallV 111 10 1 1 n X B me ls [.ref 0] (FW ra hn H T a b P Bo G Se W c1 c2 c3 z) Q := by
  rcases hz with rfl | ⟨g, rfl⟩
  · rcases hra with rfl | rfl
    · refine And.intro trivial (cMw [.ref 0] (fun u : List Int32 × List Int32 × Int32 × List Int32 × List Int32 => FIs E a (u.1, u.2.1, u.2.2.1) Bo (G.1, G.2.1, G.2.2.1, G.2.2.2.1, u.2.2.2.1, u.2.2.2.2, G.2.2.2.2.2.2)) (fun _ => none) (fun u => FW fr0 hn H T a b (u.1, u.2.1, u.2.2.1) Bo (G.1, G.2.1, G.2.2.1, G.2.2.2.1, u.2.2.2.1, u.2.2.2.2, G.2.2.2.2.2.2) Se W c1 c2 c3 []) (by omega) rfl rfl (fun _ => rfl) (fun _ => rfl) (fun _ => rfl) (fun Q' hQ' => t_arrange hX (by show 4 ≤ B.1 - 1; omega) hg ha hm hp (fun lf rt cn kn sn h => hQ' (lf, rt, cn, kn, sn) h)) (fun u hu => ?_))
      exact hq _ _ _ _ _ hu
    · refine And.intro trivial (cMw [.ref 0] (fun u : List Int32 × List Int32 × Int32 × List Int32 × List Int32 => FIs E a (u.1, u.2.1, u.2.2.1) Bo (G.1, G.2.1, G.2.2.1, G.2.2.2.1, u.2.2.2.1, u.2.2.2.2, G.2.2.2.2.2.2)) (fun _ => none) (fun u => FW fr1 hn H T a b (u.1, u.2.1, u.2.2.1) Bo (G.1, G.2.1, G.2.2.1, G.2.2.2.1, u.2.2.2.1, u.2.2.2.2, G.2.2.2.2.2.2) Se W c1 c2 c3 []) (by omega) rfl rfl (fun _ => rfl) (fun _ => rfl) (fun _ => rfl) (fun Q' hQ' => t_arrange hX (by show 4 ≤ B.1 - 1; omega) hg ha hm hp (fun lf rt cn kn sn h => hQ' (lf, rt, cn, kn, sn) h)) (fun u hu => ?_))
      exact hq _ _ _ _ _ hu
  · rcases hra with rfl | rfl
    · refine And.intro trivial (cMs rf72 [.ref 0] (FW fr0 hn H T a b P Bo G Se W c1 c2 c3 []) (fun u : List Int32 × List Int32 × Int32 × List Int32 × List Int32 => FIs E a (u.1, u.2.1, u.2.2.1) Bo (G.1, G.2.1, G.2.2.1, G.2.2.2.1, u.2.2.2.1, u.2.2.2.2, G.2.2.2.2.2.2)) (fun _ => none) (fun u => FW fr0 hn H T a b (u.1, u.2.1, u.2.2.1) Bo (G.1, G.2.1, G.2.2.1, G.2.2.2.1, u.2.2.2.1, u.2.2.2.2, G.2.2.2.2.2.2) Se W c1 c2 c3 []) (fun u => FW fr0 hn H T a b (u.1, u.2.1, u.2.2.1) Bo (G.1, G.2.1, G.2.2.1, G.2.2.2.1, u.2.2.2.1, u.2.2.2.2, G.2.2.2.2.2.2) Se W c1 c2 c3 [.inl g]) (by omega) rfl rfl rfl (fun _ => rfl) (fun _ => rfl) (fun _ => rfl) (fun Q' hQ' => t_arrange hX (by show 4 ≤ B.1 - 1; omega) hg ha hm hp (fun lf rt cn kn sn h => hQ' (lf, rt, cn, kn, sn) h)) (fun u hu => ?_))
      exact hq _ _ _ _ _ hu
    · refine And.intro trivial (cMs rf72 [.ref 0] (FW fr1 hn H T a b P Bo G Se W c1 c2 c3 []) (fun u : List Int32 × List Int32 × Int32 × List Int32 × List Int32 => FIs E a (u.1, u.2.1, u.2.2.1) Bo (G.1, G.2.1, G.2.2.1, G.2.2.2.1, u.2.2.2.1, u.2.2.2.2, G.2.2.2.2.2.2)) (fun _ => none) (fun u => FW fr1 hn H T a b (u.1, u.2.1, u.2.2.1) Bo (G.1, G.2.1, G.2.2.1, G.2.2.2.1, u.2.2.2.1, u.2.2.2.2, G.2.2.2.2.2.2) Se W c1 c2 c3 []) (fun u => FW fr1 hn H T a b (u.1, u.2.1, u.2.2.1) Bo (G.1, G.2.1, G.2.2.1, G.2.2.2.1, u.2.2.2.1, u.2.2.2.2, G.2.2.2.2.2.2) Se W c1 c2 c3 [.inl g]) (by omega) rfl rfl rfl (fun _ => rfl) (fun _ => rfl) (fun _ => rfl) (fun Q' hQ' => t_arrange hX (by show 4 ≤ B.1 - 1; omega) hg ha hm hp (fun lf rt cn kn sn h => hQ' (lf, rt, cn, kn, sn) h)) (fun u hu => ?_))
      exact hq _ _ _ _ _ hu
end FB
