/-! FlexTerms: shown, pair, bodies, told. -/
def wEn : Nat → List Nat → List Nat
  | 0, s => s
  | n + 1, s => wEn n (wEnd s).2
theorem wEn_add : ∀ (a k : Nat) (s : List Nat), wEn (k + a) s = wEn k (wEn a s)
  | 0, k, s => rfl
  | a + 1, k, s => by rw [← Nat.add_assoc, wEn, wEn_add a k, wEn]
theorem wEn_own : ∀ (a : Nat) (s : List Nat), wEn (a + 1) ((a + 1) :: s) = (wEnd s).2
  | 0, s => rfl
  | a + 1, s => by
    rw [wEn, wEnd, if_pos (by omega)]
    exact wEn_own a s
theorem wS_en : ∀ (x : List Int32) (n : Nat) (s : List Nat), okF x n = true → (wS x s).2 = wEn n s
  | [], n, s, h => by rw [okF_nil h]; rfl
  | c :: x, n, s, h => by
    obtain ⟨k, rfl, h2⟩ := okF_cons h
    rw [wS, wL]
    by_cases hc : arN c = 0
    · rw [if_pos hc, wEn]
      rw [hc] at h2
      exact wS_en x k _ h2
    · rw [if_neg hc]
      show (wS x (arN c :: s)).2 = _
      obtain ⟨a, ha⟩ : ∃ a, arN c = a + 1 := ⟨arN c - 1, by omega⟩
      rw [wS_en x _ _ h2, ha, wEn_add, wEn_own, wEn]
theorem wS_end {x : List Int32} (h : okF x 1 = true) : (wS x []).2 = [] := by rw [wS_en x 1 [] h]; rfl
section FF
variable {sc : List Int32} {X : pX} {B : pB} {Q : pQ}
theorem t_fact (hX : Cl sc X) (hB : 4 ≤ B.1) {s : St} {f : FT} (hI : FIf s f) {w : Nat} (hw : w < 8) (hq : Q (some (.int (fcN s w))) (FWf fr0 f [])) : X B 109 0 [some (.ref 0), some (.int (nI w))] [] (FWf fr0 f []) Q := by
  obtain ⟨hn, H, ⟨by', pl, ln, dp, aw⟩, ⟨L, S, N, D, C, sd, tt⟩, b, P, Bo, G, Se, W, c1, c2, c3⟩ := f
  obtain ⟨⟨⟨t1, t2, t3, t4⟩, t5⟩, i2, ⟨⟨i3a, i3b⟩, i3c⟩, ⟨⟨j1, j2, j3⟩, i4⟩, i5, i6, i7, i8, i9⟩ := id hI
  have h40 := i2.1.2.1
  have h8 := i2.1.1
  dsimp only at t4 i3b j1 j2 j3 i7 i8 i9 h40 h8
  subst t4 i3b j2 j3 i7 i8 i9
  have e4 : ((L.drop 0).take s.2.1.flatten.length).foldl flS 0 = nI (flb s.2.1.flatten 0) := by
    rw [List.drop_zero, j1.2.1]; exact flS_eq _ 0
  rw [fcN] at hq
  iterate 2 refine hX ?_
  refine And.intro (fun h => ?_) (fun h0 => And.intro (fun h => ?_) (fun h1 => And.intro (fun h => ?_) (fun h2 => And.intro (fun h => ?_) (fun h3 => And.intro (fun h => ?_) (fun h4 => And.intro (fun h => ?_) (fun h5 => And.intro (fun h => ?_) (fun h6 => ?_)))))))
  · rw [if_pos ((neq (b := 0) (by omega) (by omega)).mp h)] at hq
    iterate 3 refine hX ?_
    exact hq
  · rw [if_neg (fun q => h0 (by rw [q]; rfl)), if_pos ((neq (b := 1) (by omega) (by omega)).mp h)] at hq
    iterate 3 refine hX ?_
    exact hq
  · rw [if_neg (fun q => h0 (by rw [q]; rfl)), if_neg (fun q => h1 (by rw [q]; rfl)), if_pos ((neq (b := 2) (by omega) (by omega)).mp h)] at hq
    iterate 3 refine hX ?_
    exact hq
  · rw [if_neg (fun q => h0 (by rw [q]; rfl)), if_neg (fun q => h1 (by rw [q]; rfl)), if_neg (fun q => h2 (by rw [q]; rfl)), if_pos ((neq (b := 3) (by omega) (by omega)).mp h)] at hq
    iterate 3 refine hX ?_
    refine And.intro trivial (cP rfT [.ref 0] (Tx0 by' pl (nI s.1.length) dp aw) (some (.int (nI s.1.length))) [.int (nI s.1.length)] (by omega) rfl rfl rfl rfl (fun Q' hQ' => t_tlength hX hQ') ?_)
    refine hX ?_
    exact hq
  · rw [if_neg (fun q => h0 (by rw [q]; rfl)), if_neg (fun q => h1 (by rw [q]; rfl)), if_neg (fun q => h2 (by rw [q]; rfl)), if_neg (fun q => h3 (by rw [q]; rfl)), if_pos ((neq (b := 4) (by omega) (by omega)).mp h)] at hq
    iterate 3 refine hX ?_
    refine And.intro trivial (cP rfN [.ref 0] (EqW L S N D C (nI s.2.1.length) (nI s.2.1.flatten.length)) (some (.int (nI (s.2.1.length / 2)))) [.int (nI (s.2.1.length / 2))] (by omega) rfl rfl rfl rfl (fun Q' hQ' => t_count hX (by omega) hQ') ?_)
    refine hX ?_
    exact hq
  · rw [if_neg (fun q => h0 (by rw [q]; rfl)), if_neg (fun q => h1 (by rw [q]; rfl)), if_neg (fun q => h2 (by rw [q]; rfl)), if_neg (fun q => h3 (by rw [q]; rfl)), if_neg (fun q => h4 (by rw [q]; rfl)), if_pos ((neq (b := 5) (by omega) (by omega)).mp h)] at hq
    iterate 3 refine hX ?_
    refine And.intro trivial (cP rfN [.ref 0] (EqW L S N D C (nI s.2.1.length) (nI s.2.1.flatten.length)) (some (.int (nI s.2.1.flatten.length))) [.int (nI s.2.1.flatten.length)] (by omega) rfl rfl rfl rfl (fun Q' hQ' => t_total hX hQ') ?_)
    refine hX ?_
    exact hq
  · rw [if_neg (fun q => h0 (by rw [q]; rfl)), if_neg (fun q => h1 (by rw [q]; rfl)), if_neg (fun q => h2 (by rw [q]; rfl)), if_neg (fun q => h3 (by rw [q]; rfl)), if_neg (fun q => h4 (by rw [q]; rfl)), if_neg (fun q => h5 (by rw [q]; rfl)), if_pos ((neq (b := 6) (by omega) (by omega)).mp h)] at hq
    iterate 6 refine hX ?_
    refine And.intro trivial (cP rfN [.ref 0] (EqW L S N D C (nI s.2.1.length) (nI s.2.1.flatten.length)) (some (.int (nI s.2.1.flatten.length))) [.int (nI s.2.1.flatten.length), .int (nI 0), .ref 4] (by omega) rfl rfl rfl rfl (fun Q' hQ' => t_total hX hQ') ?_)
    refine hX (And.intro trivial (cP rfN [.ref 0, .int (nI 0), .int (nI s.2.1.flatten.length)] (EqW L S N D C (nI s.2.1.length) (nI s.2.1.flatten.length)) (some (.int (nI (flb s.2.1.flatten 0)))) [.int (nI (flb s.2.1.flatten 0))] (by omega) rfl rfl rfl rfl (fun Q' hQ' => t_flexIn hX (by show 2 ≤ B.1 - 1; omega) j1.1.1 (by omega) (by rw [e4]; exact hQ')) ?_))
    refine hX ?_
    exact hq
  · rw [if_neg (fun q => h0 (by rw [q]; rfl)), if_neg (fun q => h1 (by rw [q]; rfl)), if_neg (fun q => h2 (by rw [q]; rfl)), if_neg (fun q => h3 (by rw [q]; rfl)), if_neg (fun q => h4 (by rw [q]; rfl)), if_neg (fun q => h5 (by rw [q]; rfl)), if_neg (fun q => h6 (by rw [q]; rfl))] at hq
    iterate 3 refine hX ?_
    refine And.intro trivial (cP rfH [.ref 0] (HiW ra0 (nI s.2.2.1.length) H (L, S, N, D, C, nI s.2.1.length, nI s.2.1.flatten.length)) (some (.int (nI s.2.2.1.length))) [.int (nI s.2.2.1.length)] (by omega) rfl rfl rfl rfl (fun Q' hQ' => ?_) ?_)
    · repeat refine hX ?_
      exact hQ'
    · refine hX ?_
      exact hq
theorem f_told (hX : Cl sc X) (hB : 5 ≤ B.1) {s : St} {f : FT} (hI : FIf s f) {w : Int32} (hq : ∀ f', FIf (sTold s w).2 f' → Q (some (.int (sTold s w).1)) (FWf fr0 f' [])) : X B 106 0 [some (.ref 0), some (.int w)] [] (FWf fr0 f []) Q := by
  have bad : ¬ (¬ w < 0 ∧ w < 8) → X B 106 10 [some (.ref 0), some (.int w)] [] (FWf fr0 f []) Q := by
    intro h
    rw [sTold, if_neg h] at hq
    iterate 3 refine hX ?_
    refine c_bad hX (by omega) hI (fun f' h' => ?_)
    refine hX ?_
    exact hq f' h'
  iterate 2 refine hX ?_
  refine And.intro (fun h => bad (fun q => q.1 h)) (fun h => ?_)
  iterate 3 refine hX ?_
  refine And.intro (fun h2 => ?_) (fun h2 => bad (fun q => h2 q.2))
  rw [sTold, if_pos ⟨h, h2⟩] at hq
  obtain ⟨k, rfl, hk, hkc⟩ := i_nat h
  rw [hkc] at hq
  have hk8 : k < 8 := (nlt (b := 8) hk (by omega)).mp h2
  iterate 3 refine hX ?_
  refine And.intro trivial (cPw [.ref 0, .int (nI k)] (some (.int (fcN s k))) (by omega) rfl rfl rfl (fun Q' hQ' => t_fact hX (by show 4 ≤ B.1 - 1; omega) hI hk8 hQ') ?_)
  refine hX ?_
  exact hq _ hI
theorem f_bodies (hX : Cl sc X) (hB : 5 ≤ B.1) {s : St} {f : FT} (hI : FIf s f) {x n : Int32} (hq : ∀ f', FIf (sBodies s x n).2 f' → Q (some (.int (sBodies s x n).1)) (FWf fr0 f' [])) : X B 104 0 [some (.ref 0), some (.int x), some (.int n), none] [] (FWf fr0 f []) Q := by
  obtain ⟨hn, H, T, a, b, P, ⟨bw, bf, bn⟩, G, Se, W, c1, c2, c3⟩ := f
  obtain ⟨i1, i2, i3, i4, i5, i6, i7, i8, i9⟩ := id hI
  obtain ⟨⟨-, -, q3, q4⟩, -⟩ := i4.pre
  dsimp only at q3 q4
  have bad : ¬ (¬ x < 0 ∧ x < 6 ∧ 1 ≤ n ∧ n ≤ 6) → X B 104 21 [some (.ref 0), some (.int x), some (.int n), none] [] (FWf fr0 (hn, H, T, a, b, P, (bw, bf, bn), G, Se, W, c1, c2, c3) []) Q := by
    intro h
    rw [sBodies, if_neg h] at hq
    iterate 3 refine hX ?_
    refine c_bad hX (by omega) hI (fun f' h' => ?_)
    refine hX ?_
    exact hq f' h'
  iterate 2 refine hX ?_
  refine And.intro (fun h => bad (fun q => q.1 h)) (fun h => ?_)
  iterate 3 refine hX ?_
  refine And.intro (fun h2 => bad (fun q => absurd q.2.1 (Int32.not_lt.mpr h2))) (fun h2 => ?_)
  iterate 3 refine hX ?_
  refine And.intro (fun h3 => bad (fun q => absurd q.2.2.1 (Int32.not_le.mpr h3))) (fun h3 => ?_)
  iterate 3 refine hX ?_
  refine And.intro (fun h4 => ?_) (fun h4 => bad (fun q => h4 q.2.2.2))
  rw [sBodies, if_pos ⟨h, Int32.not_le.mp h2, Int32.not_lt.mp h3, h4⟩] at hq
  obtain ⟨k, rfl, hk, hkc⟩ := i_nat h
  obtain ⟨m, rfl, hm, hmc⟩ := i_nat (e := n) (fun q => h3 (Int32.lt_trans q (by decide)))
  rw [hkc, hmc] at hq
  have k6 : k < 6 := (nlt (b := 6) hk (by omega)).mp (Int32.not_le.mp h2)
  have m1 : 1 ≤ m := (nle (a := 1) (by omega) hm).mp (Int32.not_lt.mp h3)
  have m6 : m ≤ 6 := (nle (b := 6) hm (by omega)).mp h4
  obtain ⟨-, -, hend⟩ := BTf_row (p := k % 3) (s := m) (by omega) ⟨m1, m6⟩
  iterate 4 refine hX ?_
  refine cP [] [.int (85 + nI k)] [] (some (.int (arI (85 + nI k)))) [.int (arI (85 + nI k))] (by omega) rfl rfl rfl rfl (fun Q' hQ' => t_parts hX hQ') ?_
  rw [arI_85 k k6]
  iterate 6 refine hX ?_
  refine And.intro trivial (cP rfB [.ref 0, .int (nI (k % 3)), .int (nI m)] (BdW bw bf bn) (some (.int (bf.getD (k % 3 * 6 + m) 0))) [.int (bf.getD (k % 3 * 6 + m) 0)] (by omega) rfl rfl rfl rfl (fun Q' hQ' => t_end hX (by show 1 ≤ B.1 - 1; omega) (by omega) ⟨m1, m6⟩ q4.1 hQ') ?_)
  rw [q4.2 _ (by omega)]
  iterate 5 refine hX ?_
  refine And.intro trivial (cP rfB [.ref 0, .int (nI (k % 3)), .int (nI m)] (BdW bw bf bn) (some (.int (bf.getD (k % 3 * 6 + m - 1) 0))) [.int (bf.getD (k % 3 * 6 + m - 1) 0), .int (nI (BTf (k % 3 * 6 + m)).length)] (by omega) rfl rfl rfl rfl (fun Q' hQ' => t_first hX (by show 1 ≤ B.1 - 1; omega) (by omega) ⟨m1, m6⟩ q4.1 hQ') ?_)
  rw [q4.2 _ (by omega)]
  iterate 2 refine hX ?_
  rw [nsub (by omega), hend, show (BTf (k % 3 * 6 + m - 1)).length + (spF (k % 3) m 1).length - (BTf (k % 3 * 6 + m - 1)).length = (spF (k % 3) m 1).length by omega]
  exact hq _ hI
theorem f_pair (hX : Cl sc X) (hB : 5 ≤ B.1) {s : St} {f : FT} (hI : FIf s f) {i w : Int32} (hq : ∀ f', FIf (sPair s i w).2 f' → Q (some (.int (sPair s i w).1)) (FWf fr0 f' [])) : X B 99 0 [some (.ref 0), some (.int i), some (.int w)] [] (FWf fr0 f []) Q := by
  obtain ⟨hn, H, T, ⟨L, S, N, D, C, sd, tt⟩, b, ⟨lf, rt, cn⟩, Bo, G, Se, W, c1, c2, c3⟩ := f
  obtain ⟨i1, i2, i3, ⟨i4, ⟨⟨s1, s2, s3, s4⟩, ⟨s5, s6⟩, s7, s8, s9⟩, i4b⟩, i5, i6, i7, i8, i9⟩ := id hI
  have h40 := i2.1.2.1
  dsimp only at s1 s2 s3 s4 s5 s6 i4b h40
  subst i4b
  have h20 := s5.1.2.2
  have bad : ¬ (¬ i < 0 ∧ ¬ w < 0 ∧ w < 6) → X B 99 14 [some (.ref 0), some (.int i), some (.int w)] [] (FWf fr0 (hn, H, T, (L, S, N, D, C, sd, tt), b, (lf, rt, nI (prs s.2.1.flatten s.2.1 0).length), Bo, G, Se, W, c1, c2, c3) []) Q := by
    intro h
    rw [sPair, if_neg h] at hq
    iterate 3 refine hX ?_
    refine c_bad hX (by omega) hI (fun f' h' => ?_)
    refine hX ?_
    exact hq f' h'
  iterate 2 refine hX ?_
  refine And.intro (fun h => bad (fun q => q.1 h)) (fun h => ?_)
  iterate 2 refine hX ?_
  refine And.intro (fun h2 => bad (fun q => q.2.1 h2)) (fun h2 => ?_)
  iterate 3 refine hX ?_
  refine And.intro (fun h3 => ?_) (fun h3 => bad (fun q => h3 q.2.2))
  rw [sPair, if_pos ⟨h, h2, h3⟩] at hq
  obtain ⟨k, rfl, hk, hkc⟩ := i_nat h
  obtain ⟨m, rfl, hm, hmc⟩ := i_nat h2
  rw [hkc, hmc] at hq
  have m6 : m < 6 := (nlt (b := 6) hm (by omega)).mp h3
  iterate 4 refine hX ?_
  refine And.intro trivial (cP rfP [.ref 0] (PaW L S N D C sd tt lf rt (nI (prs s.2.1.flatten s.2.1 0).length)) (some (.int (nI (prs s.2.1.flatten s.2.1 0).length))) [.int (nI (prs s.2.1.flatten s.2.1 0).length), .int (nI k)] (by omega) rfl rfl rfl rfl (fun Q' hQ' => t_pcount hX hQ') ?_)
  refine hX (And.intro (fun h4 => ?_) (fun h4 => ?_))
  · have kl := (nlt hk (by omega)).mp h4
    rw [if_pos kl] at hq
    obtain ⟨e1, e2⟩ := s5.2 k kl
    have hok := s6 _ (getD_mem (d := (0, 0)) kl)
    obtain ⟨z1, z2⟩ := pOK_lt hok
    generalize hz : (prs s.2.1.flatten s.2.1 0).getD k (0, 0) = z at e1 e2 z1 z2 hq
    obtain ⟨p, q⟩ := z
    dsimp only at e1 e2 z1 z2
    rw [prF] at hq
    dsimp only at hq
    rw [← LgetD s1.2.1 z1, ← LgetD s1.2.1 z2] at hq
    iterate 2 refine hX ?_
    refine And.intro (fun h => ?_) (fun h0 => And.intro (fun h => ?_) (fun h1 => And.intro (fun h => ?_) (fun h2 => And.intro (fun h => ?_) (fun h3 => And.intro (fun h => ?_) (fun h4 => ?_)))))
    · rw [if_pos ((neq (b := 0) (by omega) (by omega)).mp h)] at hq
      iterate 6 refine hX ?_
      refine And.intro trivial (cP rfP [.ref 0, .int (nI k)] (PaW L S N D C sd tt lf rt (nI (prs s.2.1.flatten s.2.1 0).length)) (some (.int (lf.getD k 0))) [.int (lf.getD k 0), .ref 4] (by omega) rfl rfl rfl rfl (fun Q' hQ' => t_left hX (by omega) s5.1.1 hQ') ?_)
      rw [e1]
      refine hX (And.intro trivial (cP rfN [.ref 0, .int (nI p)] (EqW L S N D C sd tt) (some (.int (L.getD p 0))) [.int (L.getD p 0)] (by omega) rfl rfl rfl rfl (fun Q' hQ' => t_letterAt hX (by omega) s1.1.1 hQ') ?_))
      refine hX ?_
      exact hq _ hI
    · rw [if_neg (fun q => h0 (by rw [q]; rfl)), if_pos ((neq (b := 1) (by omega) (by omega)).mp h)] at hq
      iterate 6 refine hX ?_
      refine And.intro trivial (cP rfP [.ref 0, .int (nI k)] (PaW L S N D C sd tt lf rt (nI (prs s.2.1.flatten s.2.1 0).length)) (some (.int (rt.getD k 0))) [.int (rt.getD k 0), .ref 4] (by omega) rfl rfl rfl rfl (fun Q' hQ' => t_right hX (by omega) s5.1.2.1 hQ') ?_)
      rw [e2]
      refine hX (And.intro trivial (cP rfN [.ref 0, .int (nI q)] (EqW L S N D C sd tt) (some (.int (L.getD q 0))) [.int (L.getD q 0)] (by omega) rfl rfl rfl rfl (fun Q' hQ' => t_letterAt hX (by omega) s1.1.1 hQ') ?_))
      refine hX ?_
      exact hq _ hI
    · rw [if_neg (fun q => h0 (by rw [q]; rfl)), if_neg (fun q => h1 (by rw [q]; rfl)), if_pos ((neq (b := 2) (by omega) (by omega)).mp h), ← (s2.2 p z1).1] at hq
      iterate 6 refine hX ?_
      refine And.intro trivial (cP rfP [.ref 0, .int (nI k)] (PaW L S N D C sd tt lf rt (nI (prs s.2.1.flatten s.2.1 0).length)) (some (.int (lf.getD k 0))) [.int (lf.getD k 0), .ref 4] (by omega) rfl rfl rfl rfl (fun Q' hQ' => t_left hX (by omega) s5.1.1 hQ') ?_)
      rw [e1]
      refine hX (And.intro trivial (cP rfN [.ref 0, .int (nI p)] (EqW L S N D C sd tt) (some (.int (N.getD p 0))) [.int (N.getD p 0)] (by omega) rfl rfl rfl rfl (fun Q' hQ' => t_nodesAt hX (by omega) s2.1.1 hQ') ?_))
      refine hX ?_
      exact hq _ hI
    · rw [if_neg (fun q => h0 (by rw [q]; rfl)), if_neg (fun q => h1 (by rw [q]; rfl)), if_neg (fun q => h2 (by rw [q]; rfl)), if_pos ((neq (b := 3) (by omega) (by omega)).mp h), ← (s2.2 q z2).1] at hq
      iterate 6 refine hX ?_
      refine And.intro trivial (cP rfP [.ref 0, .int (nI k)] (PaW L S N D C sd tt lf rt (nI (prs s.2.1.flatten s.2.1 0).length)) (some (.int (rt.getD k 0))) [.int (rt.getD k 0), .ref 4] (by omega) rfl rfl rfl rfl (fun Q' hQ' => t_right hX (by omega) s5.1.2.1 hQ') ?_)
      rw [e2]
      refine hX (And.intro trivial (cP rfN [.ref 0, .int (nI q)] (EqW L S N D C sd tt) (some (.int (N.getD q 0))) [.int (N.getD q 0)] (by omega) rfl rfl rfl rfl (fun Q' hQ' => t_nodesAt hX (by omega) s2.1.1 hQ') ?_))
      refine hX ?_
      exact hq _ hI
    · rw [if_neg (fun q => h0 (by rw [q]; rfl)), if_neg (fun q => h1 (by rw [q]; rfl)), if_neg (fun q => h2 (by rw [q]; rfl)), if_neg (fun q => h3 (by rw [q]; rfl)), if_pos ((neq (b := 4) (by omega) (by omega)).mp h)] at hq
      iterate 4 refine hX ?_
      refine And.intro trivial (cP rfP [.ref 0, .int (nI k)] (PaW L S N D C sd tt lf rt (nI (prs s.2.1.flatten s.2.1 0).length)) (some (.int (pkI (L.getD p 0) (L.getD q 0)))) [.int (pkI (L.getD p 0) (L.getD q 0))] (by omega) rfl rfl rfl rfl (fun Q' hQ' => t_pkind hX (by show 2 ≤ B.1 - 1; omega) (by omega) s5.1.1 s5.1.2.1 s1.1.1 e1 e2 (by omega) (by omega) hQ') ?_)
      refine hX ?_
      exact hq _ hI
    · rw [if_neg (fun q => h0 (by rw [q]; rfl)), if_neg (fun q => h1 (by rw [q]; rfl)), if_neg (fun q => h2 (by rw [q]; rfl)), if_neg (fun q => h3 (by rw [q]; rfl)), if_neg (fun q => h4 (by rw [q]; rfl))] at hq
      iterate 4 refine hX ?_
      refine And.intro trivial (cP rfP [.ref 0, .int (nI k)] (PaW L S N D C sd tt lf rt (nI (prs s.2.1.flatten s.2.1 0).length)) (some (.int (pwI (L.getD p 0) (L.getD q 0)))) [.int (pwI (L.getD p 0) (L.getD q 0))] (by omega) rfl rfl rfl rfl (fun Q' hQ' => t_ways hX (by show 3 ≤ B.1 - 1; omega) (by omega) s5.1.1 s5.1.2.1 s1.1.1 e1 e2 (by omega) (by omega) hQ') ?_)
      refine hX ?_
      exact hq _ hI
  · rw [if_neg (fun q => h4 ((nlt hk (by omega)).mpr q))] at hq
    iterate 2 refine hX ?_
    exact hq _ hI
theorem f_shown (hX : Cl sc X) (hB : 5 ≤ B.1) {s : St} {f : FT} (hI : FIf s f) {e k : Int32} (hq : ∀ f', FIf (sShown s e k).2 f' → Q (some (.int (sShown s e k).1)) (FWf fr0 f' [])) : X B 97 0 [some (.ref 0), some (.int e), some (.int k)] [] (FWf fr0 f []) Q := by
  obtain ⟨hn, H, T, ⟨L, S, N, D, C, sd, tt⟩, b, P, Bo, G, Se, ⟨wb, wp, wl, wd⟩, c1, c2, c3⟩ := f
  obtain ⟨i1, i2, i3, i4, i5, i6, i7, i8, i9⟩ := id hI
  obtain ⟨-, hm⟩ := i4.pre
  obtain ⟨hE, j2, j3⟩ := i4.1
  have h8 := i2.1.1
  have h40 := i2.1.2.1
  dsimp only at hE j2 j3 hm h8 h40 i6
  subst j2 j3
  have bad : ¬ (hsI e (s.2.1.length / 2) = 1 ∧ -1 ≤ k) → X B 97 16 [some (.ref 0), some (.int e), some (.int k)] [] (FWf fr0 (hn, H, T, (L, S, N, D, C, nI s.2.1.length, nI s.2.1.flatten.length), b, P, Bo, G, Se, (wb, wp, wl, wd), c1, c2, c3) []) Q := by
    intro h
    rw [sShown, if_neg h] at hq
    iterate 3 refine hX ?_
    refine c_bad hX (by omega) hI (fun f' h' => ?_)
    refine hX ?_
    exact hq f' h'
  iterate 4 refine hX ?_
  refine c_has hX (by omega) (k := s.2.1.length) (by omega) i4.1.2.1 ?_
  rcases hsI_or e (s.2.1.length / 2) with h | h
  · rw [h]
    exact hX (And.intro (fun _ => bad (fun q => by rw [h] at q; exact absurd q.1 (by decide))) (fun h => absurd rfl h))
  · rw [h]
    refine hX (And.intro (fun h => absurd h (by decide)) (fun _ => ?_))
    iterate 3 refine hX ?_
    refine And.intro (fun h2 => ?_) (fun h2 => bad (fun q => h2 q.2))
    rw [sShown, if_pos ⟨h, h2⟩] at hq
    obtain ⟨i, rfl, hi, hc⟩ := hsI_is (by omega) h
    rw [hc] at hq
    obtain ⟨xr, d1, d2⟩ := side_at hE.2.2.2 (k := 2 * i + 0) (by omega)
    obtain ⟨yr, d3, d4⟩ := side_at hE.2.2.2 (k := 2 * i + 1) (by omega)
    have hsum : (s.2.1.getD (2 * i + 0) []).length + (s.2.1.getD (2 * i + 1) []).length ≤ 40 := by
      obtain ⟨e1, -⟩ := eq_split hi
      have := congrArg (fun z => z.flatten.length) e1
      rw [List.flatten_append, List.length_append, List.flatten_cons, List.flatten_cons, List.length_append, List.length_append] at this
      rw [Nat.add_zero]
      omega
    rw [← Nat.add_zero (2 * i)] at hq
    have hp1 := hE.2.2.1 (2 * i + 0) (by omega)
    have hp2 := hE.2.2.1 (2 * i + 1) (by omega)
    rw [show 2 * i + 0 + 1 = 2 * i + 1 by omega] at hq
    generalize s.2.1.getD (2 * i + 0) [] = u at d1 d2 hsum hq
    generalize s.2.1.getD (2 * i + 1) [] = v at d3 d4 hsum hq
    have n1 := (wS_sum u [] (fun p hp => by simp at hp)).1
    have n2 := (wS_sum v [] (fun p hp => by simp at hp)).1
    have m1 := okF_sum u 1 d2
    have m2 := okF_sum v 1 d4
    rw [List.sum_nil] at n1 n2
    iterate 3 refine hX ?_
    refine And.intro trivial (cMs rfW [.ref 0] (WrW wb wp wl wd) (fun _ : Unit => True) (fun _ => none) (fun _ => WrW wb wp 0 0) (fun _ => FW fr0 hn H T (L, S, N, D, C, nI s.2.1.length, nI s.2.1.flatten.length) b P Bo G Se (wb, wp, 0, 0) c1 c2 c3 []) (by omega) rfl rfl rfl (fun _ => rfl) (fun _ => rfl) (fun _ => rfl) (fun Q' hQ' => t_begin hX (hQ' () trivial)) (fun _ _ => ?_))
    iterate 9 refine hX ?_
    refine And.intro trivial (cP rfN [.ref 0, .int (nI i), .int (nI 0)] (EqW L S N D C (nI s.2.1.length) (nI s.2.1.flatten.length)) (some (.int (S.getD (2 * i + 0) 0))) [.int (S.getD (2 * i + 0) 0), .ref 4, .ref 69] (by omega) rfl rfl rfl rfl (fun Q' hQ' => t_start hX (by show 2 ≤ B.1 - 1; omega) h8 hi (by omega) hE.1.2.1 hQ') ?_)
    rw [hp1]
    refine hX (And.intro trivial (cMs rfWN [.ref 0, .ref 3, .int (nI (pre s.2.1 (2 * i + 0)))] (WtW wb wp (nI ([] : List Int32).length) (nI ([] : List Nat).length) L S N D C (nI s.2.1.length) (nI s.2.1.flatten.length)) (fun x : List Int32 × List Int32 => wrR ([] ++ (wS u []).1) x.1 ∧ stR (wS u []).2 x.2) (fun _ => none) (fun x => WtW x.1 x.2 (nI ([] ++ (wS u []).1).length) (nI (wS u []).2.length) L S N D C (nI s.2.1.length) (nI s.2.1.flatten.length)) (fun x => FW fr0 hn H T (L, S, N, D, C, nI s.2.1.length, nI s.2.1.flatten.length) b P Bo G Se (x.1, x.2, nI ([] ++ (wS u []).1).length, nI (wS u []).2.length) c1 c2 c3 []) (by omega) rfl rfl rfl (fun _ => rfl) (fun _ => rfl) (fun _ => rfl) (fun Q' hQ' => t_putTerm hX (by show 3 ≤ B.1 - 1; omega) h40 hE.1.1 hE.2.1 hm d1 d2 (fun p hp => by simp at hp) ⟨i6.1, by simp, by simp⟩ (stR_nil i6.2) (by simp; omega) (by simp only [List.length_nil, Nat.zero_add]; omega) (fun by2 pl2 h1 h2 => hQ' (by2, pl2) ⟨h1, h2⟩)) (fun x hx => ?_)))
    obtain ⟨wb1, wp1⟩ := x
    obtain ⟨x1, x2⟩ := hx
    dsimp only at x1 x2
    rw [List.nil_append] at x1 ⊢
    have hw2 : (wS u []).2 = [] := by
      have := wS_end d2
      exact this
    rw [hw2] at x2 ⊢
    iterate 4 refine hX ?_
    refine And.intro trivial (cMs rfW [.ref 0, .int 61] (WrW wb1 wp1 (nI (wS u []).1.length) (nI ([] : List Nat).length)) (fun _ : Unit => True) (fun _ => none) (fun _ => WrW (wb1.set (wS u []).1.length 61) wp1 (nI ((wS u []).1 ++ [61]).length) (nI ([] : List Nat).length)) (fun _ => FW fr0 hn H T (L, S, N, D, C, nI s.2.1.length, nI s.2.1.flatten.length) b P Bo G Se (wb1.set (wS u []).1.length 61, wp1, nI ((wS u []).1 ++ [61]).length, nI ([] : List Nat).length) c1 c2 c3 []) (by omega) rfl rfl rfl (fun _ => rfl) (fun _ => rfl) (fun _ => rfl) (fun Q' hQ' => t_put hX x1 (by omega) (hQ' () trivial)) (fun _ _ => ?_))
    have x3 := wrR_push x1 (by omega) 61
    iterate 9 refine hX ?_
    refine And.intro trivial (cP rfN [.ref 0, .int (nI i), .int (nI 1)] (EqW L S N D C (nI s.2.1.length) (nI s.2.1.flatten.length)) (some (.int (S.getD (2 * i + 1) 0))) [.int (S.getD (2 * i + 1) 0), .ref 4, .ref 69] (by omega) rfl rfl rfl rfl (fun Q' hQ' => t_start hX (by show 2 ≤ B.1 - 1; omega) h8 hi (by omega) hE.1.2.1 hQ') ?_)
    rw [hp2]
    refine hX (And.intro trivial (cMs rfWN [.ref 0, .ref 3, .int (nI (pre s.2.1 (2 * i + 1)))] (WtW (wb1.set (wS u []).1.length 61) wp1 (nI ((wS u []).1 ++ [61]).length) (nI ([] : List Nat).length) L S N D C (nI s.2.1.length) (nI s.2.1.flatten.length)) (fun x : List Int32 × List Int32 => wrR (shw u v) x.1 ∧ stR (wS v []).2 x.2) (fun _ => none) (fun x => WtW x.1 x.2 (nI (shw u v).length) (nI (wS v []).2.length) L S N D C (nI s.2.1.length) (nI s.2.1.flatten.length)) (fun x => FW fr0 hn H T (L, S, N, D, C, nI s.2.1.length, nI s.2.1.flatten.length) b P Bo G Se (x.1, x.2, nI (shw u v).length, nI (wS v []).2.length) c1 c2 c3 []) (by omega) rfl rfl rfl (fun _ => rfl) (fun _ => rfl) (fun _ => rfl) (fun Q' hQ' => t_putTerm hX (by show 3 ≤ B.1 - 1; omega) h40 hE.1.1 hE.2.1 hm d3 d4 (fun p hp => by simp at hp) x3 x2 (by simp; omega) (by rw [List.length_append, List.length_singleton]; omega) (fun by2 pl2 h1 h2 => hQ' (by2, pl2) ⟨h1, h2⟩)) (fun x hx => ?_)))
    obtain ⟨wb2, wp2⟩ := x
    obtain ⟨x4, x5⟩ := hx
    dsimp only at x4 x5
    have hI2 : FIf s (hn, H, T, (L, S, N, D, C, nI s.2.1.length, nI s.2.1.flatten.length), b, P, Bo, G, Se, (wb2, wp2, nI (shw u v).length, nI (wS v []).2.length), c1, c2, c3) := ⟨i1, i2, i3, i4, i5, ⟨x4.1, x5.1⟩, i7, i8, i9⟩
    rw [tlK] at hq
    iterate 3 refine hX ?_
    refine And.intro (fun h3 => ?_) (fun h3 => ?_)
    · rw [if_pos h3] at hq
      iterate 3 refine hX ?_
      refine And.intro trivial (cP rfW [.ref 0] (WrW wb2 wp2 (nI (shw u v).length) (nI (wS v []).2.length)) (some (.int (nI (shw u v).length))) [.int (nI (shw u v).length)] (by omega) rfl rfl rfl rfl (fun Q' hQ' => t_wlength hX hQ') ?_)
      iterate 2 refine hX ?_
      exact hq _ hI2
    · rw [if_neg h3] at hq
      have h0 : ¬ k < 0 := fun q => h3 (by
        have a1 := Int32.le_iff_toInt_le.mp h2
        have a2 := Int32.lt_iff_toInt_lt.mp q
        apply Int32.toInt_inj.mp
        have e1 : (-1 : Int32).toInt = -1 := by decide
        have e2 : (0 : Int32).toInt = 0 := by decide
        rw [e1] at a1 ⊢
        rw [e2] at a2
        omega)
      obtain ⟨m, rfl, hm2, hmc⟩ := i_nat h0
      rw [hmc] at hq
      iterate 4 refine hX ?_
      refine And.intro trivial (cP rfW [.ref 0, .int (nI m)] (WrW wb2 wp2 (nI (shw u v).length) (nI (wS v []).2.length)) (some (.int (if m < (shw u v).length then (shw u v).getD m 0 else -5))) [.int (if m < (shw u v).length then (shw u v).getD m 0 else -5)] (by omega) rfl rfl rfl rfl (fun Q' hQ' => t_byteAt hX x4 hm2 hQ') ?_)
      refine hX ?_
      exact hq _ hI2
end FF
