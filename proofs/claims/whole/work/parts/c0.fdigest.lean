/-! FlexTerms: digest. -/
theorem fold0 (f : Nat → Int32) (h : Int64) : h = ((List.range 0).map f).foldl mxL h := rfl
theorem fold00 (A : List (List (List Nat))) (h : Int64) : h = ((A.take 0).flatMap slW).foldl mxL h := by rw [List.take_zero]; rfl
section FI1
variable {sc : List Int32} {X : pX} {B : pB} {Q : pQ}
theorem t_db_in (hX : Cl sc X) (hB : 1 ≤ B.1) {f : FT} {o : List Int32} (hR : wrR o f.2.2.2.2.2.2.2.2.2.1.1) (hl : f.2.2.2.2.2.2.2.2.2.1.2.2.1 = nI o.length) {hb h0 : Int64} {i x : Nat} (hq : ∀ l7, X B 108 77 [some (.ref 0), some (.long hb), none, some (.int (nI i)), some (.long (o.foldl mxL h0)), none, some (.int (nI x)), l7] [] (FWf fr0 f []) Q) : ∀ (n k : Nat), k + n = o.length → X B 108 40 [some (.ref 0), some (.long hb), none, some (.int (nI i)), some (.long ((o.take k).foldl mxL h0)), none, some (.int (nI x)), some (.int (nI k))] [] (FWf fr0 f []) Q := by
  have ho := hR.2.1
  intro n
  induction n with
  | zero =>
    intro k hk
    have : k = o.length := by omega
    subst this
    rw [List.take_length]
    iterate 4 refine hX ?_
    refine c_wlength hX hB rfl ?_
    rw [hl]
    refine hX (And.intro (fun _ => ?_) (fun h => absurd (Int32.le_refl _) h))
    exact hq _
  | succ n ih =>
    intro k hk
    have hs := ih (k + 1) (by omega)
    rw [take_succ_getD 0 (by omega), List.foldl_append] at hs
    iterate 4 refine hX ?_
    refine c_wlength hX hB rfl ?_
    rw [hl]
    refine hX (And.intro (fun h => absurd ((nle (by omega) (by omega)).mp h) (by omega)) (fun _ => ?_))
    iterate 7 refine hX ?_
    refine c_byteAt hX hB hR hl (k := k) (by omega) rfl ?_
    rw [if_pos (by omega)]
    iterate 5 refine hX ?_
    rw [show nI k + 1 = nI (k + 1) from (nI_succ k).symm]
    exact hs
theorem t_db_loop (hX : Cl sc X) (hB : 5 ≤ B.1) {s : St} {hb h0 : Int64} {i : Nat} (hi : i < (sols s.2.1).length) {D : Int64} (hD : (bdW ((sols s.2.1).getD i []) 6).foldl mxL h0 = D) (hq : ∀ f, FK s f → Q (some (.long D)) (FWf fr0 f [])) : ∀ (n x : Nat), x + n = 6 → ∀ (f : FT) (h : Int64) (l7 : Option Value), FK s f → h = (bdW ((sols s.2.1).getD i []) x).foldl mxL h0 → X B 108 6 [some (.ref 0), some (.long hb), none, some (.int (nI i)), some (.long h), none, some (.int (nI x)), l7] [] (FWf fr0 f []) Q := by
  obtain ⟨-, -, -, -, hok⟩ := sols_mem (getD_mem (d := []) hi)
  intro n
  induction n with
  | zero =>
    intro x hx f h l7 hK he
    have : x = 6 := by omega
    subst this
    rw [hD] at he
    subst he
    iterate 3 refine hX ?_
    refine And.intro (fun _ => ?_) (fun h => absurd (by decide) h)
    iterate 2 refine hX ?_
    exact hq f hK
  | succ n ih =>
    intro x hx f h l7 hK he
    iterate 3 refine hX ?_
    refine And.intro (fun h => absurd ((nle (a := 6) (by omega) (by omega)).mp h) (by omega)) (fun _ => ?_)
    iterate 3 refine hX ?_
    refine c_begin hX (by omega) hK (fun f1 hK1 hw1 => ?_)
    iterate 7 refine hX ?_
    refine c_wordOf hX (by omega) hK1 hi (by omega) rfl ?_
    refine hX ?_
    have hbk := hok x (by omega)
    refine c_putBody hX (by omega) hK1 hw1 hbk (fun f2 hK2 hw2 hl2 => ?_)
    iterate 2 refine hX ?_
    have hst := bdW_succ ((sols s.2.1).getD i []) x
    generalize hoo : (wS ((((sols s.2.1).getD i []).getD x []).map ltN) []).1 = o at hw2 hl2 hst
    refine t_db_in hX (by omega) hw2 hl2 (h0 := h) (fun l7 => ?_) o.length 0 (by omega)
    iterate 2 refine hX ?_
    rw [show nI x + 1 = nI (x + 1) from (nI_succ x).symm]
    exact ih (x + 1) (by omega) f2 _ l7 hK2 (by rw [hst, List.foldl_append, he])
theorem t_digestBodies (hX : Cl sc X) (hB : 5 ≤ B.1) {s : St} {h0 : Int64} {i : Nat} (hi : i < (sols s.2.1).length) {D : Int64} (hD : (bdW ((sols s.2.1).getD i []) 6).foldl mxL h0 = D) {f : FT} (hK : FK s f) (hq : ∀ f, FK s f → Q (some (.long D)) (FWf fr0 f [])) : X B 108 0 [some (.ref 0), some (.long h0), none, some (.int (nI i)), none, none, none, none] [] (FWf fr0 f []) Q := by
  iterate 4 refine hX ?_
  exact t_db_loop hX hB hi hD hq 6 0 rfl f h0 none hK rfl
theorem t_dg1 (hX : Cl sc X) (hB : 5 ≤ B.1) {s : St} {f : FT} (hI : FIf s f) {h0 D : Int64} (hD : ((List.range 8).map (fcN s)).foldl mxL h0 = D) (hq : ∀ l3, X B 107 31 [some (.ref 0), some (.long D), none, l3, none] [] (FWf fr0 f []) Q) : ∀ (n k : Nat), k + n = 8 → ∀ h, h = ((List.range k).map (fcN s)).foldl mxL h0 → X B 107 6 [some (.ref 0), some (.long h), none, some (.int (nI k)), none] [] (FWf fr0 f []) Q := by
  intro n
  induction n with
  | zero =>
    intro k hk h he
    have : k = 8 := by omega
    subst this
    rw [hD] at he
    subst he
    iterate 3 refine hX ?_
    refine And.intro (fun _ => ?_) (fun h => absurd (by decide) h)
    exact hq _
  | succ n ih =>
    intro k hk h he
    iterate 3 refine hX ?_
    refine And.intro (fun h => absurd ((nle (a := 8) (by omega) (by omega)).mp h) (by omega)) (fun _ => ?_)
    iterate 6 refine hX ?_
    refine And.intro trivial (cPw [.ref 0, .int (nI k)] (some (.int (fcN s k))) (by omega) rfl rfl rfl (fun Q' hQ' => t_fact hX (by show 4 ≤ B.1 - 1; omega) hI (by omega) hQ') ?_)
    iterate 5 refine hX ?_
    rw [show nI k + 1 = nI (k + 1) from (nI_succ k).symm]
    exact ih (k + 1) (by omega) _ (by rw [fold_succ, ← he]; rfl)
theorem t_dg2i (hX : Cl sc X) (hB : 5 ≤ B.1) {s : St} {f : FT} (hI : FIf s f) {h0 : Int64} {e : Nat} (he2 : e < s.2.1.length / 2) (hq : ∀ l4 h, h = ((List.range (8 * e + 8)).map (sdV s.2.1)).foldl mxL h0 → X B 107 81 [some (.ref 0), some (.long h), none, some (.int (nI e)), l4] [] (FWf fr0 f []) Q) : ∀ (n k : Nat), k + n = 8 → ∀ h, h = ((List.range (8 * e + k)).map (sdV s.2.1)).foldl mxL h0 → X B 107 47 [some (.ref 0), some (.long h), none, some (.int (nI e)), some (.int (nI k))] [] (FWf fr0 f []) Q := by
  obtain ⟨hn, H, T, a, b, P, Bo, G, Se, W, c1, c2, c3⟩ := f
  obtain ⟨i1, i2, i3, i4, i5, i6, i7, i8, i9⟩ := id hI
  have h8 := i2.1.1
  dsimp only at h8 i4
  obtain ⟨q1, q2⟩ := i4.pre
  intro n
  induction n with
  | zero =>
    intro k hk h he
    have : k = 8 := by omega
    subst this
    iterate 3 refine hX ?_
    refine And.intro (fun _ => ?_) (fun h => absurd (by decide) h)
    exact hq _ h he
  | succ n ih =>
    intro k hk h he
    iterate 3 refine hX ?_
    refine And.intro (fun h => absurd ((nle (a := 8) (by omega) (by omega)).mp h) (by omega)) (fun _ => ?_)
    iterate 8 refine hX ?_
    refine And.intro (by decide) ?_
    rw [show nI k / 4 = nI (k / 4) from ndiv (b := 4) (by omega) (by omega) (by omega)]
    iterate 3 refine hX ?_
    refine And.intro (by decide) ?_
    rw [show nI k - nI k / 4 * 4 = nI (k % 4) from nrem (b := 4) (by omega) (by omega) (by omega)]
    refine hX ?_
    have hv : sfN (s.2.1.getD (2 * e + k / 4) []) (k % 4) = sdV s.2.1 (8 * e + k) := by rw [sdV, show (8 * e + k) / 4 = 2 * e + k / 4 by omega, show (8 * e + k) % 4 = k % 4 by omega]
    refine And.intro trivial (cPw [.ref 0, .int (nI e), .int (nI (k / 4)), .int (nI (k % 4))] (some (.int (sdV s.2.1 (8 * e + k)))) (by omega) rfl rfl rfl (fun Q' hQ' => t_sideFact hX (by show 4 ≤ B.1 - 1; omega) i2 i4.1 q2 he2 (by omega) (by omega) (by rw [hv]; exact hQ')) ?_)
    iterate 5 refine hX ?_
    rw [show nI k + 1 = nI (k + 1) from (nI_succ k).symm]
    exact ih (k + 1) (by omega) _ (by rw [← Nat.add_assoc, fold_succ, ← he]; rfl)
theorem t_dg2 (hX : Cl sc X) (hB : 5 ≤ B.1) {s : St} {f : FT} (hI : FIf s f) {h0 D : Int64} (hD : ((List.range (8 * (s.2.1.length / 2))).map (sdV s.2.1)).foldl mxL h0 = D) (hq : ∀ l3 l4, X B 107 87 [some (.ref 0), some (.long D), none, l3, l4] [] (FWf fr0 f []) Q) : ∀ (n e : Nat), e + n = s.2.1.length / 2 → ∀ h l4, h = ((List.range (8 * e)).map (sdV s.2.1)).foldl mxL h0 → X B 107 33 [some (.ref 0), some (.long h), none, some (.int (nI e)), l4] [] (FWf fr0 f []) Q := by
  have h8 := hI.2.1.1.1
  have hcnt : f.2.2.2.1.2.2.2.2.2.1 = nI s.2.1.length := hI.2.2.2.1.1.2.1
  intro n
  induction n with
  | zero =>
    intro e he h l4 hh
    have : e = s.2.1.length / 2 := by omega
    subst this
    rw [hD] at hh
    subst hh
    iterate 4 refine hX ?_
    refine And.intro trivial (cP rfN [.ref 0] (EqW f.2.2.2.1.1 f.2.2.2.1.2.1 f.2.2.2.1.2.2.1 f.2.2.2.1.2.2.2.1 f.2.2.2.1.2.2.2.2.1 (nI s.2.1.length) f.2.2.2.1.2.2.2.2.2.2) (some (.int (nI (s.2.1.length / 2)))) [.int (nI (s.2.1.length / 2)), .int (nI (s.2.1.length / 2))] (by omega) rfl (by rw [← hcnt]; rfl) rfl rfl (fun Q' hQ' => t_count hX (by omega) hQ') ?_)
    refine hX (And.intro (fun _ => ?_) (fun h => absurd (Int32.le_refl _) h))
    exact hq _ _
  | succ n ih =>
    intro e he h l4 hh
    iterate 4 refine hX ?_
    refine And.intro trivial (cP rfN [.ref 0] (EqW f.2.2.2.1.1 f.2.2.2.1.2.1 f.2.2.2.1.2.2.1 f.2.2.2.1.2.2.2.1 f.2.2.2.1.2.2.2.2.1 (nI s.2.1.length) f.2.2.2.1.2.2.2.2.2.2) (some (.int (nI (s.2.1.length / 2)))) [.int (nI (s.2.1.length / 2)), .int (nI e)] (by omega) rfl (by rw [← hcnt]; rfl) rfl rfl (fun Q' hQ' => t_count hX (by omega) hQ') ?_)
    refine hX (And.intro (fun h => absurd ((nle (by omega) (by omega)).mp h) (by omega)) (fun _ => ?_))
    iterate 2 refine hX ?_
    refine t_dg2i hX hB hI (h0 := h0) (e := e) (by omega) (fun l4 h2 hh2 => ?_) 8 0 rfl h hh
    iterate 2 refine hX ?_
    rw [show nI e + 1 = nI (e + 1) from (nI_succ e).symm]
    exact ih (e + 1) (by omega) h2 l4 (by rw [show 8 * (e + 1) = 8 * e + 8 by omega]; exact hh2)
theorem t_dg3 (hX : Cl sc X) (hB : 5 ≤ B.1) {s : St} {f : FT} (hI : FIf s f) {h0 D : Int64} {l4 : Option Value} (hD : ((List.range 4).map (paV s.2.1)).foldl mxL h0 = D) (hq : ∀ l3, X B 107 116 [some (.ref 0), some (.long D), none, l3, l4] [] (FWf fr0 f []) Q) : ∀ (n k : Nat), k + n = 4 → ∀ h, h = ((List.range k).map (paV s.2.1)).foldl mxL h0 → X B 107 89 [some (.ref 0), some (.long h), none, some (.int (nI k)), l4] [] (FWf fr0 f []) Q := by
  obtain ⟨hn, H, T, a, b, P, Bo, G, Se, W, c1, c2, c3⟩ := f
  obtain ⟨i1, i2, i3, i4, i5, i6, i7, i8, i9⟩ := id hI
  obtain ⟨j1, ⟨⟨s1, s2, s3, s4⟩, ⟨s5, s6⟩, s7, s8, s9⟩, j3⟩ := i4
  dsimp only at j1 s1 s2 s5 j3
  have h40 := i2.1.2.1
  intro n
  induction n with
  | zero =>
    intro k hk h he
    have : k = 4 := by omega
    subst this
    rw [hD] at he
    subst he
    iterate 3 refine hX ?_
    refine And.intro (fun _ => ?_) (fun h => absurd (by decide) h)
    exact hq _
  | succ n ih =>
    intro k hk h he
    iterate 3 refine hX ?_
    refine And.intro (fun h => absurd ((nle (a := 4) (by omega) (by omega)).mp h) (by omega)) (fun _ => ?_)
    iterate 7 refine hX ?_
    have hL : hmN a.1 (prs s.2.1.flatten s.2.1 0) (nI k) = hmN s.2.1.flatten (prs s.2.1.flatten s.2.1 0) (nI k) := hmN_L s1.2.1 s6 _
    refine And.intro trivial (cP rfP [.ref 0, .int (nI k)] (PaW a.1 a.2.1 a.2.2.1 a.2.2.2.1 a.2.2.2.2.1 a.2.2.2.2.2.1 a.2.2.2.2.2.2 P.1 P.2.1 (nI (prs s.2.1.flatten s.2.1 0).length)) (some (.int (paV s.2.1 k))) [.int (paV s.2.1 k), .long (31 * h)] (by omega) rfl (by rw [← j3]; rfl) rfl rfl (fun Q' hQ' => t_howMany hX (by show 3 ≤ B.1 - 1; omega) s5 s1.1.1 (fun q hq => by obtain ⟨z1, z2⟩ := pOK_lt (s6 q hq); omega) (by rw [hL]; exact hQ')) ?_)
    iterate 5 refine hX ?_
    rw [show nI k + 1 = nI (k + 1) from (nI_succ k).symm]
    exact ih (k + 1) (by omega) _ (by rw [fold_succ, ← he]; rfl)
theorem t_dg4 (hX : Cl sc X) (hB : 15 ≤ B.1) {s : St} {h0 D : Int64} {l4 : Option Value} (hD : ((sols s.2.1).flatMap slW).foldl mxL h0 = D) (hq : ∀ f, FIf s f → Q (some (.long D)) (FWf fr0 f [])) : ∀ (n i : Nat), i + n = (sols s.2.1).length → ∀ (f : FT) h, FIf s f → h = (((sols s.2.1).take i).flatMap slW).foldl mxL h0 → X B 107 133 [some (.ref 0), some (.long h), none, some (.int (nI i)), l4] [] (FWf fr0 f []) Q := by
  have h40 := sols_le s.2.1
  intro n
  induction n with
  | zero =>
    intro i hi f h hI he
    have : i = (sols s.2.1).length := by omega
    subst this
    rw [List.take_length, hD] at he
    subst he
    iterate 4 refine hX ?_
    refine c_found hX (by omega) hI rfl (fun f1 hK => ?_)
    refine hX (And.intro (fun _ => ?_) (fun h => absurd (Int32.le_refl _) h))
    iterate 2 refine hX ?_
    exact hq f1 hK.1
  | succ n ih =>
    intro i hi f h hI he
    iterate 4 refine hX ?_
    refine c_found hX (by omega) hI rfl (fun f1 hK => ?_)
    refine hX (And.intro (fun h => absurd ((nle (by omega) (by omega)).mp h) (by omega)) (fun _ => ?_))
    iterate 7 refine hX ?_
    refine c_sizeOf hX (by omega) hK (i := i) (by omega) rfl ?_
    iterate 7 refine hX ?_
    have hs : ((sols s.2.1).take (i + 1)).flatMap slW = ((sols s.2.1).take i).flatMap slW ++ slW ((sols s.2.1).getD i []) := by
      rw [take_succ_getD [] (by omega), List.flatMap_append]
      simp
    refine And.intro trivial (cMw [.ref 0, .long (mxL h (nI (szB ((sols s.2.1).getD i []) 6))), .int (nI i)] (fun u : FT => FK s u) (fun _ => some (.long ((bdW ((sols s.2.1).getD i []) 6).foldl mxL (mxL h (nI (szB ((sols s.2.1).getD i []) 6)))))) (fun u => FWf fr0 u []) (by omega) rfl rfl (fun _ => rfl) (fun _ => rfl) (fun _ => rfl) (fun Q' hQ' => t_digestBodies hX (by show 5 ≤ B.1 - 1; omega) (by omega) rfl hK (fun u h => hQ' u h)) (fun u hu => ?_))
    iterate 3 refine hX ?_
    rw [show nI i + 1 = nI (i + 1) from (nI_succ i).symm]
    exact ih (i + 1) (by omega) u _ hu.1 (by rw [hs, List.foldl_append, slW, List.foldl_cons, he])
theorem f_digest (hX : Cl sc X) (hB : 15 ≤ B.1) {s : St} {f : FT} (hI : FIf s f) (hq : ∀ f', FIf (sDigest s).2 f' → Q (some (.long (sDigest s).1)) (FWf fr0 f' [])) : X B 107 0 [some (.ref 0), none, none, none, none] [] (FWf fr0 f []) Q := by
  iterate 4 refine hX ?_
  refine t_dg1 hX (by omega) hI (h0 := 2473) (D := d1 s) rfl (fun l3 => ?_) 8 0 rfl 2473 (fold0 _ _)
  iterate 2 refine hX ?_
  refine t_dg2 hX (by omega) hI (h0 := d1 s) (D := d2 s) rfl (fun l3 l4 => ?_) (s.2.1.length / 2) 0 (by omega) (d1 s) none (fold0 _ _)
  iterate 2 refine hX ?_
  refine t_dg3 hX (by omega) hI (h0 := d2 s) (D := d3 s) rfl (fun l3 => ?_) 4 0 rfl (d2 s) (fold0 _ _)
  iterate 6 refine hX ?_
  refine c_found hX (by omega) hI rfl (fun f1 hK => ?_)
  iterate 5 refine hX ?_
  refine t_dg4 hX hB (h0 := mxL (d3 s) (nI (sols s.2.1).length)) (D := d4 s) rfl hq (sols s.2.1).length 0 (by omega) f1 (mxL (d3 s) (nI (sols s.2.1).length)) hK.1 (fold00 _ _)
end FI1
