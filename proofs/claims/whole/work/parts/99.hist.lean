/-! History. -/
abbrev Eq7 : Type := List Int32 × List Int32 × List Int32 × List Int32 × List Int32 × Int32 × Int32
def updH (H : Nat → Eq7) (c : Nat) (v : Eq7) : Nat → Eq7 := fun i => bif Nat.beq i c then v else H i
def rol (H : Nat → Eq7) : Nat → Eq7
  | 0 => H 1
  | 1 => H 2
  | 2 => H 3
  | 3 => H 4
  | 4 => H 0
  | n + 5 => H (n + 5)
def HiW (ra : List Value) (hn : Int32) (H : Nat → Eq7) (a : Eq7) : pH :=
  [.inr (4, [.ref 1, .int hn]), .inr (50, ra),
   .inr (2, [.ref 3, .ref 4, .ref 5, .ref 6, .ref 7, .int (H 0).2.2.2.2.2.1, .int (H 0).2.2.2.2.2.2]), .inl (H 0).1, .inl (H 0).2.1, .inl (H 0).2.2.1, .inl (H 0).2.2.2.1, .inl (H 0).2.2.2.2.1,
   .inr (2, [.ref 9, .ref 10, .ref 11, .ref 12, .ref 13, .int (H 1).2.2.2.2.2.1, .int (H 1).2.2.2.2.2.2]), .inl (H 1).1, .inl (H 1).2.1, .inl (H 1).2.2.1, .inl (H 1).2.2.2.1, .inl (H 1).2.2.2.2.1,
   .inr (2, [.ref 15, .ref 16, .ref 17, .ref 18, .ref 19, .int (H 2).2.2.2.2.2.1, .int (H 2).2.2.2.2.2.2]), .inl (H 2).1, .inl (H 2).2.1, .inl (H 2).2.2.1, .inl (H 2).2.2.2.1, .inl (H 2).2.2.2.2.1,
   .inr (2, [.ref 21, .ref 22, .ref 23, .ref 24, .ref 25, .int (H 3).2.2.2.2.2.1, .int (H 3).2.2.2.2.2.2]), .inl (H 3).1, .inl (H 3).2.1, .inl (H 3).2.2.1, .inl (H 3).2.2.2.1, .inl (H 3).2.2.2.2.1,
   .inr (2, [.ref 27, .ref 28, .ref 29, .ref 30, .ref 31, .int (H 4).2.2.2.2.2.1, .int (H 4).2.2.2.2.2.2]), .inl (H 4).1, .inl (H 4).2.1, .inl (H 4).2.2.1, .inl (H 4).2.2.2.1, .inl (H 4).2.2.2.2.1,
   .inr (2, [.ref 33, .ref 34, .ref 35, .ref 36, .ref 37, .int a.2.2.2.2.2.1, .int a.2.2.2.2.2.2]), .inl a.1, .inl a.2.1, .inl a.2.2.1, .inl a.2.2.2.1, .inl a.2.2.2.2.1]
abbrev ra0 : List Value := [.ref 2, .ref 8, .ref 14, .ref 20, .ref 26]
abbrev ra1 : List Value := [.ref 8, .ref 14, .ref 20, .ref 26, .ref 2]
/-- the rows are as long as they must be -/
def len7 (a : Eq7) : Prop := (a.1.length = 40 ∧ a.2.1.length = 9) ∧ a.2.2.1.length = 40 ∧ a.2.2.2.1.length = 40 ∧ a.2.2.2.2.1.length = 40
/-- an object that holds these EQUATIONS -/
def is7 (E : List (List Int32)) (a : Eq7) : Prop := EqInv E a.1 a.2.1 ∧ a.2.2.2.2.2.1 = nI E.length ∧ a.2.2.2.2.2.2 = nI E.flatten.length
section HI
variable {sc : List Int32} {X : pX} {B : pB} {Q : pQ} {H : Nat → Eq7} {E : List (List Int32)} {a : Eq7} {hn : Int32}
theorem t_hcount (hX : Cl sc X) {ra : List Value} (hq : Q (some (.int hn)) [.inr (4, [.ref 1, .int hn]), .inr (50, ra)]) : X B 45 0 [some (.ref 0)] [] [.inr (4, [.ref 1, .int hn]), .inr (50, ra)] Q := by
  repeat refine hX ?_
  exact hq

theorem t_push0 (hX : Cl sc X) (hB : 3 ≤ B.1) (hH : ∀ i, i < 5 → len7 (H i)) (ha : is7 E a) {c : Nat} (hc : c < 5) (hq : ∀ N D C, mOK E.flatten N D C → Q none (HiW ra0 (nI (c + 1)) (updH H c (a.1, a.2.1, N, D, C, nI E.length, nI E.flatten.length)) a)) : X B 46 0 [some (.ref 0), some (.ref 32), none, none] [] (HiW ra0 (nI c) H a) Q := by
  obtain ⟨L, S, N, D, C, sd, tt⟩ := a
  obtain ⟨hE, h1, h2⟩ := ha
  dsimp only at hE h1 h2 hq
  subst h1 h2
  iterate 4 refine hX ?_
  refine And.intro (fun _ => ?_) (fun h => absurd ((nlt (b := 5) (by omega) (by omega)).mpr hc) h)
  rcases (show c = 0 ∨ c = 1 ∨ c = 2 ∨ c = 3 ∨ c = 4 by omega) with rfl | rfl | rfl | rfl | rfl
  · iterate 5 refine hX ?_
    refine And.intro (vp_in_nI (n := 0) (by decide) (by decide)) ?_
    iterate 2 refine hX ?_
    refine And.intro trivial (cMs [2, 3, 4, 5, 6, 7, 32, 33, 34, 35, 36, 37] [.ref 0, .ref 6] (Eq2W (H 0).1 (H 0).2.1 (H 0).2.2.1 (H 0).2.2.2.1 (H 0).2.2.2.2.1 (H 0).2.2.2.2.2.1 (H 0).2.2.2.2.2.2 L S N D C (nI E.length) (nI E.flatten.length)) (fun u : List Int32 × List Int32 × List Int32 => mOK E.flatten u.1 u.2.1 u.2.2) (fun _ => none) (fun u => Eq2W L S u.1 u.2.1 u.2.2 (nI E.length) (nI E.flatten.length) L S N D C (nI E.length) (nI E.flatten.length)) (fun u => HiW ra0 (nI 0) (updH H 0 (L, S, u.1, u.2.1, u.2.2, nI E.length, nI E.flatten.length)) (L, S, N, D, C, nI E.length, nI E.flatten.length)) (by omega) rfl rfl rfl (fun _ => rfl) (fun _ => rfl) (fun _ => rfl) (fun Q' hQ' => t_copyFrom hX (by show 2 ≤ B.1 - 1; omega) (hH 0 (by omega)).1 (hH 0 (by omega)).2 hE (fun N D C h => hQ' (N, D, C) h)) (fun u hu => ?_))
    iterate 7 refine hX ?_
    exact hq u.1 u.2.1 u.2.2 hu
  · iterate 5 refine hX ?_
    refine And.intro (vp_in_nI (n := 1) (by decide) (by decide)) ?_
    iterate 2 refine hX ?_
    refine And.intro trivial (cMs [8, 9, 10, 11, 12, 13, 32, 33, 34, 35, 36, 37] [.ref 0, .ref 6] (Eq2W (H 1).1 (H 1).2.1 (H 1).2.2.1 (H 1).2.2.2.1 (H 1).2.2.2.2.1 (H 1).2.2.2.2.2.1 (H 1).2.2.2.2.2.2 L S N D C (nI E.length) (nI E.flatten.length)) (fun u : List Int32 × List Int32 × List Int32 => mOK E.flatten u.1 u.2.1 u.2.2) (fun _ => none) (fun u => Eq2W L S u.1 u.2.1 u.2.2 (nI E.length) (nI E.flatten.length) L S N D C (nI E.length) (nI E.flatten.length)) (fun u => HiW ra0 (nI 1) (updH H 1 (L, S, u.1, u.2.1, u.2.2, nI E.length, nI E.flatten.length)) (L, S, N, D, C, nI E.length, nI E.flatten.length)) (by omega) rfl rfl rfl (fun _ => rfl) (fun _ => rfl) (fun _ => rfl) (fun Q' hQ' => t_copyFrom hX (by show 2 ≤ B.1 - 1; omega) (hH 1 (by omega)).1 (hH 1 (by omega)).2 hE (fun N D C h => hQ' (N, D, C) h)) (fun u hu => ?_))
    iterate 7 refine hX ?_
    exact hq u.1 u.2.1 u.2.2 hu
  · iterate 5 refine hX ?_
    refine And.intro (vp_in_nI (n := 2) (by decide) (by decide)) ?_
    iterate 2 refine hX ?_
    refine And.intro trivial (cMs [14, 15, 16, 17, 18, 19, 32, 33, 34, 35, 36, 37] [.ref 0, .ref 6] (Eq2W (H 2).1 (H 2).2.1 (H 2).2.2.1 (H 2).2.2.2.1 (H 2).2.2.2.2.1 (H 2).2.2.2.2.2.1 (H 2).2.2.2.2.2.2 L S N D C (nI E.length) (nI E.flatten.length)) (fun u : List Int32 × List Int32 × List Int32 => mOK E.flatten u.1 u.2.1 u.2.2) (fun _ => none) (fun u => Eq2W L S u.1 u.2.1 u.2.2 (nI E.length) (nI E.flatten.length) L S N D C (nI E.length) (nI E.flatten.length)) (fun u => HiW ra0 (nI 2) (updH H 2 (L, S, u.1, u.2.1, u.2.2, nI E.length, nI E.flatten.length)) (L, S, N, D, C, nI E.length, nI E.flatten.length)) (by omega) rfl rfl rfl (fun _ => rfl) (fun _ => rfl) (fun _ => rfl) (fun Q' hQ' => t_copyFrom hX (by show 2 ≤ B.1 - 1; omega) (hH 2 (by omega)).1 (hH 2 (by omega)).2 hE (fun N D C h => hQ' (N, D, C) h)) (fun u hu => ?_))
    iterate 7 refine hX ?_
    exact hq u.1 u.2.1 u.2.2 hu
  · iterate 5 refine hX ?_
    refine And.intro (vp_in_nI (n := 3) (by decide) (by decide)) ?_
    iterate 2 refine hX ?_
    refine And.intro trivial (cMs [20, 21, 22, 23, 24, 25, 32, 33, 34, 35, 36, 37] [.ref 0, .ref 6] (Eq2W (H 3).1 (H 3).2.1 (H 3).2.2.1 (H 3).2.2.2.1 (H 3).2.2.2.2.1 (H 3).2.2.2.2.2.1 (H 3).2.2.2.2.2.2 L S N D C (nI E.length) (nI E.flatten.length)) (fun u : List Int32 × List Int32 × List Int32 => mOK E.flatten u.1 u.2.1 u.2.2) (fun _ => none) (fun u => Eq2W L S u.1 u.2.1 u.2.2 (nI E.length) (nI E.flatten.length) L S N D C (nI E.length) (nI E.flatten.length)) (fun u => HiW ra0 (nI 3) (updH H 3 (L, S, u.1, u.2.1, u.2.2, nI E.length, nI E.flatten.length)) (L, S, N, D, C, nI E.length, nI E.flatten.length)) (by omega) rfl rfl rfl (fun _ => rfl) (fun _ => rfl) (fun _ => rfl) (fun Q' hQ' => t_copyFrom hX (by show 2 ≤ B.1 - 1; omega) (hH 3 (by omega)).1 (hH 3 (by omega)).2 hE (fun N D C h => hQ' (N, D, C) h)) (fun u hu => ?_))
    iterate 7 refine hX ?_
    exact hq u.1 u.2.1 u.2.2 hu
  · iterate 5 refine hX ?_
    refine And.intro (vp_in_nI (n := 4) (by decide) (by decide)) ?_
    iterate 2 refine hX ?_
    refine And.intro trivial (cMs [26, 27, 28, 29, 30, 31, 32, 33, 34, 35, 36, 37] [.ref 0, .ref 6] (Eq2W (H 4).1 (H 4).2.1 (H 4).2.2.1 (H 4).2.2.2.1 (H 4).2.2.2.2.1 (H 4).2.2.2.2.2.1 (H 4).2.2.2.2.2.2 L S N D C (nI E.length) (nI E.flatten.length)) (fun u : List Int32 × List Int32 × List Int32 => mOK E.flatten u.1 u.2.1 u.2.2) (fun _ => none) (fun u => Eq2W L S u.1 u.2.1 u.2.2 (nI E.length) (nI E.flatten.length) L S N D C (nI E.length) (nI E.flatten.length)) (fun u => HiW ra0 (nI 4) (updH H 4 (L, S, u.1, u.2.1, u.2.2, nI E.length, nI E.flatten.length)) (L, S, N, D, C, nI E.length, nI E.flatten.length)) (by omega) rfl rfl rfl (fun _ => rfl) (fun _ => rfl) (fun _ => rfl) (fun Q' hQ' => t_copyFrom hX (by show 2 ≤ B.1 - 1; omega) (hH 4 (by omega)).1 (hH 4 (by omega)).2 hE (fun N D C h => hQ' (N, D, C) h)) (fun u hu => ?_))
    iterate 7 refine hX ?_
    exact hq u.1 u.2.1 u.2.2 hu
theorem t_push1 (hX : Cl sc X) (hB : 3 ≤ B.1) (hH : ∀ i, i < 5 → len7 (H i)) (ha : is7 E a) (hq : ∀ N D C, mOK E.flatten N D C → Q none (HiW ra1 (nI 5) (updH H 0 (a.1, a.2.1, N, D, C, nI E.length, nI E.flatten.length)) a)) : X B 46 0 [some (.ref 0), some (.ref 32), none, none] [] (HiW ra0 (nI 5) H a) Q := by
  obtain ⟨L, S, N, D, C, sd, tt⟩ := a
  obtain ⟨hE, h1, h2⟩ := ha
  dsimp only at hE h1 h2 hq
  subst h1 h2
  iterate 4 refine hX ?_
  refine And.intro (fun h => absurd h (by decide)) (fun _ => ?_)
  iterate 4 refine hX ?_
  refine And.intro (vp_in_nI (n := 0) (by decide) (by decide)) ?_
  iterate 8 refine hX ?_
  refine And.intro (fun h => absurd h (by decide)) (fun _ => ?_)
  iterate 9 refine hX ?_
  refine And.intro (vp_in_nI (n := 1) (by decide) (by decide)) ?_
  iterate 1 refine hX ?_
  refine And.intro (vp_in_nI (n := 0) (by decide) (by decide)) ?_
  iterate 2 refine hX ?_
  iterate 5 refine hX ?_
  refine And.intro (fun h => absurd h (by decide)) (fun _ => ?_)
  iterate 9 refine hX ?_
  refine And.intro (vp_in_nI (n := 2) (by decide) (by decide)) ?_
  iterate 1 refine hX ?_
  refine And.intro (vp_in_nI (n := 1) (by decide) (by decide)) ?_
  iterate 2 refine hX ?_
  iterate 5 refine hX ?_
  refine And.intro (fun h => absurd h (by decide)) (fun _ => ?_)
  iterate 9 refine hX ?_
  refine And.intro (vp_in_nI (n := 3) (by decide) (by decide)) ?_
  iterate 1 refine hX ?_
  refine And.intro (vp_in_nI (n := 2) (by decide) (by decide)) ?_
  iterate 2 refine hX ?_
  iterate 5 refine hX ?_
  refine And.intro (fun h => absurd h (by decide)) (fun _ => ?_)
  iterate 9 refine hX ?_
  refine And.intro (vp_in_nI (n := 4) (by decide) (by decide)) ?_
  iterate 1 refine hX ?_
  refine And.intro (vp_in_nI (n := 3) (by decide) (by decide)) ?_
  iterate 2 refine hX ?_
  iterate 5 refine hX ?_
  refine And.intro (fun _ => ?_) (fun h => absurd (by decide) h)
  iterate 5 refine hX ?_
  refine And.intro (vp_in_nI (n := 4) (by decide) (by decide)) ?_
  iterate 3 refine hX ?_
  iterate 5 refine hX ?_
  refine And.intro (vp_in_nI (n := 4) (by decide) (by decide)) ?_
  iterate 2 refine hX ?_
  refine And.intro trivial (cMs [2, 3, 4, 5, 6, 7, 32, 33, 34, 35, 36, 37] [.ref 0, .ref 6] (Eq2W (H 0).1 (H 0).2.1 (H 0).2.2.1 (H 0).2.2.2.1 (H 0).2.2.2.2.1 (H 0).2.2.2.2.2.1 (H 0).2.2.2.2.2.2 L S N D C (nI E.length) (nI E.flatten.length)) (fun u : List Int32 × List Int32 × List Int32 => mOK E.flatten u.1 u.2.1 u.2.2) (fun _ => none) (fun u => Eq2W L S u.1 u.2.1 u.2.2 (nI E.length) (nI E.flatten.length) L S N D C (nI E.length) (nI E.flatten.length)) (fun u => HiW ra1 (nI 4) (updH H 0 (L, S, u.1, u.2.1, u.2.2, nI E.length, nI E.flatten.length)) (L, S, N, D, C, nI E.length, nI E.flatten.length)) (by omega) rfl rfl rfl (fun _ => rfl) (fun _ => rfl) (fun _ => rfl) (fun Q' hQ' => t_copyFrom hX (by show 2 ≤ B.1 - 1; omega) (hH 0 (by omega)).1 (hH 0 (by omega)).2 hE (fun N D C h => hQ' (N, D, C) h)) (fun u hu => ?_))
  iterate 7 refine hX ?_
  exact hq u.1 u.2.1 u.2.2 hu
theorem t_pop0 (hX : Cl sc X) {ra : List Value} (hq : Q (some (.int 0)) (HiW ra (nI 0) H a)) : X B 47 0 [some (.ref 0), some (.ref 32)] [] (HiW ra (nI 0) H a) Q := by
  iterate 3 refine hX ?_
  refine And.intro (fun _ => ?_) (fun h => absurd (by decide) h)
  iterate 2 refine hX ?_
  exact And.intro (Or.inl rfl) hq
theorem t_pop (hX : Cl sc X) (hB : 3 ≤ B.1) (ha : len7 a) {c : Nat} (hc : c < 5) (hE : is7 E (H c)) (hq : ∀ N D C, mOK E.flatten N D C → Q (some (.int 1)) (HiW ra0 (nI c) H ((H c).1, (H c).2.1, N, D, C, nI E.length, nI E.flatten.length))) : X B 47 0 [some (.ref 0), some (.ref 32)] [] (HiW ra0 (nI (c + 1)) H a) Q := by
  obtain ⟨L, S, N, D, C, sd, tt⟩ := a
  iterate 3 refine hX ?_
  refine And.intro (fun h => absurd ((nle (b := 0) (by omega) (by omega)).mp h) (by omega)) (fun _ => ?_)
  iterate 4 refine hX ?_
  refine And.intro (fun _ => ?_) (fun h => absurd ((nle (b := 5) (by omega) (by omega)).mpr (by omega)) h)
  iterate 6 refine hX ?_
  rw [show nI (c + 1) - 1 = nI c from nI_pred c]
  rcases (show c = 0 ∨ c = 1 ∨ c = 2 ∨ c = 3 ∨ c = 4 by omega) with rfl | rfl | rfl | rfl | rfl
  · obtain ⟨hE, h1, h2⟩ := hE
    generalize hh : H 0 = z at hE h1 h2 hq
    obtain ⟨L', S', N', D', C', sd', tt'⟩ := z
    dsimp only at hE h1 h2 hq
    subst h1 h2
    iterate 6 refine hX ?_
    refine And.intro (vp_in_nI (n := 0) (by decide) (by decide)) ?_
    refine hX ?_
    refine And.intro trivial (cMs [32, 33, 34, 35, 36, 37, 2, 3, 4, 5, 6, 7] [.ref 0, .ref 6] (Eq2W L S N D C sd tt (H 0).1 (H 0).2.1 (H 0).2.2.1 (H 0).2.2.2.1 (H 0).2.2.2.2.1 (H 0).2.2.2.2.2.1 (H 0).2.2.2.2.2.2) (fun u : List Int32 × List Int32 × List Int32 => mOK E.flatten u.1 u.2.1 u.2.2) (fun _ => none) (fun u => Eq2W (H 0).1 (H 0).2.1 u.1 u.2.1 u.2.2 (nI E.length) (nI E.flatten.length) (H 0).1 (H 0).2.1 (H 0).2.2.1 (H 0).2.2.2.1 (H 0).2.2.2.2.1 (H 0).2.2.2.2.2.1 (H 0).2.2.2.2.2.2) (fun u => HiW ra0 (nI 0) H ((H 0).1, (H 0).2.1, u.1, u.2.1, u.2.2, nI E.length, nI E.flatten.length)) (by omega) rfl rfl rfl (fun _ => rfl) (fun _ => rfl) (fun _ => rfl) (fun Q' hQ' => ?_) (fun u hu => ?_))
    · rw [hh] at hQ' ⊢
      exact t_copyFrom hX (by show 2 ≤ B.1 - 1; omega) ha.1 ha.2 hE (fun N D C h => hQ' (N, D, C) h)
    · iterate 2 refine hX ?_
      rw [hh]
      exact And.intro (Or.inr rfl) (hq u.1 u.2.1 u.2.2 hu)
  · obtain ⟨hE, h1, h2⟩ := hE
    generalize hh : H 1 = z at hE h1 h2 hq
    obtain ⟨L', S', N', D', C', sd', tt'⟩ := z
    dsimp only at hE h1 h2 hq
    subst h1 h2
    iterate 6 refine hX ?_
    refine And.intro (vp_in_nI (n := 1) (by decide) (by decide)) ?_
    refine hX ?_
    refine And.intro trivial (cMs [32, 33, 34, 35, 36, 37, 8, 9, 10, 11, 12, 13] [.ref 0, .ref 6] (Eq2W L S N D C sd tt (H 1).1 (H 1).2.1 (H 1).2.2.1 (H 1).2.2.2.1 (H 1).2.2.2.2.1 (H 1).2.2.2.2.2.1 (H 1).2.2.2.2.2.2) (fun u : List Int32 × List Int32 × List Int32 => mOK E.flatten u.1 u.2.1 u.2.2) (fun _ => none) (fun u => Eq2W (H 1).1 (H 1).2.1 u.1 u.2.1 u.2.2 (nI E.length) (nI E.flatten.length) (H 1).1 (H 1).2.1 (H 1).2.2.1 (H 1).2.2.2.1 (H 1).2.2.2.2.1 (H 1).2.2.2.2.2.1 (H 1).2.2.2.2.2.2) (fun u => HiW ra0 (nI 1) H ((H 1).1, (H 1).2.1, u.1, u.2.1, u.2.2, nI E.length, nI E.flatten.length)) (by omega) rfl rfl rfl (fun _ => rfl) (fun _ => rfl) (fun _ => rfl) (fun Q' hQ' => ?_) (fun u hu => ?_))
    · rw [hh] at hQ' ⊢
      exact t_copyFrom hX (by show 2 ≤ B.1 - 1; omega) ha.1 ha.2 hE (fun N D C h => hQ' (N, D, C) h)
    · iterate 2 refine hX ?_
      rw [hh]
      exact And.intro (Or.inr rfl) (hq u.1 u.2.1 u.2.2 hu)
  · obtain ⟨hE, h1, h2⟩ := hE
    generalize hh : H 2 = z at hE h1 h2 hq
    obtain ⟨L', S', N', D', C', sd', tt'⟩ := z
    dsimp only at hE h1 h2 hq
    subst h1 h2
    iterate 6 refine hX ?_
    refine And.intro (vp_in_nI (n := 2) (by decide) (by decide)) ?_
    refine hX ?_
    refine And.intro trivial (cMs [32, 33, 34, 35, 36, 37, 14, 15, 16, 17, 18, 19] [.ref 0, .ref 6] (Eq2W L S N D C sd tt (H 2).1 (H 2).2.1 (H 2).2.2.1 (H 2).2.2.2.1 (H 2).2.2.2.2.1 (H 2).2.2.2.2.2.1 (H 2).2.2.2.2.2.2) (fun u : List Int32 × List Int32 × List Int32 => mOK E.flatten u.1 u.2.1 u.2.2) (fun _ => none) (fun u => Eq2W (H 2).1 (H 2).2.1 u.1 u.2.1 u.2.2 (nI E.length) (nI E.flatten.length) (H 2).1 (H 2).2.1 (H 2).2.2.1 (H 2).2.2.2.1 (H 2).2.2.2.2.1 (H 2).2.2.2.2.2.1 (H 2).2.2.2.2.2.2) (fun u => HiW ra0 (nI 2) H ((H 2).1, (H 2).2.1, u.1, u.2.1, u.2.2, nI E.length, nI E.flatten.length)) (by omega) rfl rfl rfl (fun _ => rfl) (fun _ => rfl) (fun _ => rfl) (fun Q' hQ' => ?_) (fun u hu => ?_))
    · rw [hh] at hQ' ⊢
      exact t_copyFrom hX (by show 2 ≤ B.1 - 1; omega) ha.1 ha.2 hE (fun N D C h => hQ' (N, D, C) h)
    · iterate 2 refine hX ?_
      rw [hh]
      exact And.intro (Or.inr rfl) (hq u.1 u.2.1 u.2.2 hu)
  · obtain ⟨hE, h1, h2⟩ := hE
    generalize hh : H 3 = z at hE h1 h2 hq
    obtain ⟨L', S', N', D', C', sd', tt'⟩ := z
    dsimp only at hE h1 h2 hq
    subst h1 h2
    iterate 6 refine hX ?_
    refine And.intro (vp_in_nI (n := 3) (by decide) (by decide)) ?_
    refine hX ?_
    refine And.intro trivial (cMs [32, 33, 34, 35, 36, 37, 20, 21, 22, 23, 24, 25] [.ref 0, .ref 6] (Eq2W L S N D C sd tt (H 3).1 (H 3).2.1 (H 3).2.2.1 (H 3).2.2.2.1 (H 3).2.2.2.2.1 (H 3).2.2.2.2.2.1 (H 3).2.2.2.2.2.2) (fun u : List Int32 × List Int32 × List Int32 => mOK E.flatten u.1 u.2.1 u.2.2) (fun _ => none) (fun u => Eq2W (H 3).1 (H 3).2.1 u.1 u.2.1 u.2.2 (nI E.length) (nI E.flatten.length) (H 3).1 (H 3).2.1 (H 3).2.2.1 (H 3).2.2.2.1 (H 3).2.2.2.2.1 (H 3).2.2.2.2.2.1 (H 3).2.2.2.2.2.2) (fun u => HiW ra0 (nI 3) H ((H 3).1, (H 3).2.1, u.1, u.2.1, u.2.2, nI E.length, nI E.flatten.length)) (by omega) rfl rfl rfl (fun _ => rfl) (fun _ => rfl) (fun _ => rfl) (fun Q' hQ' => ?_) (fun u hu => ?_))
    · rw [hh] at hQ' ⊢
      exact t_copyFrom hX (by show 2 ≤ B.1 - 1; omega) ha.1 ha.2 hE (fun N D C h => hQ' (N, D, C) h)
    · iterate 2 refine hX ?_
      rw [hh]
      exact And.intro (Or.inr rfl) (hq u.1 u.2.1 u.2.2 hu)
  · obtain ⟨hE, h1, h2⟩ := hE
    generalize hh : H 4 = z at hE h1 h2 hq
    obtain ⟨L', S', N', D', C', sd', tt'⟩ := z
    dsimp only at hE h1 h2 hq
    subst h1 h2
    iterate 6 refine hX ?_
    refine And.intro (vp_in_nI (n := 4) (by decide) (by decide)) ?_
    refine hX ?_
    refine And.intro trivial (cMs [32, 33, 34, 35, 36, 37, 26, 27, 28, 29, 30, 31] [.ref 0, .ref 6] (Eq2W L S N D C sd tt (H 4).1 (H 4).2.1 (H 4).2.2.1 (H 4).2.2.2.1 (H 4).2.2.2.2.1 (H 4).2.2.2.2.2.1 (H 4).2.2.2.2.2.2) (fun u : List Int32 × List Int32 × List Int32 => mOK E.flatten u.1 u.2.1 u.2.2) (fun _ => none) (fun u => Eq2W (H 4).1 (H 4).2.1 u.1 u.2.1 u.2.2 (nI E.length) (nI E.flatten.length) (H 4).1 (H 4).2.1 (H 4).2.2.1 (H 4).2.2.2.1 (H 4).2.2.2.2.1 (H 4).2.2.2.2.2.1 (H 4).2.2.2.2.2.2) (fun u => HiW ra0 (nI 4) H ((H 4).1, (H 4).2.1, u.1, u.2.1, u.2.2, nI E.length, nI E.flatten.length)) (by omega) rfl rfl rfl (fun _ => rfl) (fun _ => rfl) (fun _ => rfl) (fun Q' hQ' => ?_) (fun u hu => ?_))
    · rw [hh] at hQ' ⊢
      exact t_copyFrom hX (by show 2 ≤ B.1 - 1; omega) ha.1 ha.2 hE (fun N D C h => hQ' (N, D, C) h)
    · iterate 2 refine hX ?_
      rw [hh]
      exact And.intro (Or.inr rfl) (hq u.1 u.2.1 u.2.2 hu)
end HI
