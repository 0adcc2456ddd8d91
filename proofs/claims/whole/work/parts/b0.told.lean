/-! The model: what is told of PAIRS; told, bodies. -/
section MJ
variable {sc : List Int32} {X : pX} {B : pB} {Q : pQ} {nw fr pa rf tx bo ss op wr f1 f2 ch sd pk sv sz hpz pl sg bu : List Int32} {st ln ai fi dp wm pm sm vm wt : Int32} {hsh : Int64}
theorem pl_get {Z : List (Nat × Nat)} (hP : plR Z f1 f2) {i : Nat} (hi : i < Z.length) : f1.getD i 0 = nI (9 + (Z.getD i (0, 0)).1) ∧ f2.getD i 0 = nI (9 + (Z.getD i (0, 0)).2) := hP.2 i hi
theorem m_kindOf (hX : Cl sc X) (hB : 2 ≤ B.1) {E : List (List Int32)} (hg : gE E) {i p q : Nat} (hi : i < 24) (hf : f1.length = 24 ∧ f2.length = 24) (h1 : f1.getD i 0 = nI (9 + p)) (h2 : f2.getD i 0 = nI (9 + q)) (hp : p < 40) (hq4 : q < 40) (hq : Q (some (.int (pkI (E.flatten.getD p 0) (E.flatten.getD q 0)))) (MW (rowE E) fr pa st rf tx ln bo ss ai fi op dp wr wm f1 f2 pm ch sd sm pk sv sz vm hpz pl sg wt bu hsh)) : X B 160 0 [some (.ref 0), some (.int (nI i)), none] [] (MW (rowE E) fr pa st rf tx ln bo ss ai fi op dp wr wm f1 f2 pm ch sd sm pk sv sz vm hpz pl sg wt bu hsh) Q := by
  have hl := rowE_len hg
  obtain ⟨l1, l2⟩ := hf
  iterate 6 refine hX ?_
  refine And.intro (vp_in_nI (by omega) (by omega)) ?_
  rw [nI_clamp (by omega), h1]
  refine hX ?_
  refine And.intro (vp_in_nI (by omega) (by omega)) ?_
  rw [nI_clamp (by omega), rowE_let hg]
  generalize E.flatten.getD p 0 = a at hq ⊢
  refine hX (cP [] [.int a] [] (some (.int (fxI a))) [.int (fxI a)] (by omega) rfl rfl rfl rfl (fun Q' hQ' => m_isFlex hX (by show 1 ≤ B.1 - 1; omega) hQ') ?_)
  have second : ∀ v : Int32, X B 160 36 [some (.ref 0), some (.int (nI i)), none] [.int (fxI (E.flatten.getD q 0)), .int v] (MW (rowE E) fr pa st rf tx ln bo ss ai fi op dp wr wm f1 f2 pm ch sd sm pk sv sz vm hpz pl sg wt bu hsh) Q → X B 160 22 [some (.ref 0), some (.int (nI i)), none] [.int v] (MW (rowE E) fr pa st rf tx ln bo ss ai fi op dp wr wm f1 f2 pm ch sd sm pk sv sz vm hpz pl sg wt bu hsh) Q := by
    intro v hk
    iterate 6 refine hX ?_
    refine And.intro (vp_in_nI (by omega) (by omega)) ?_
    rw [nI_clamp (by omega), h2]
    refine hX ?_
    refine And.intro (vp_in_nI (by omega) (by omega)) ?_
    rw [nI_clamp (by omega), rowE_let hg]
    exact hX (cP [] [.int (E.flatten.getD q 0)] [] (some (.int (fxI (E.flatten.getD q 0)))) [.int (fxI (E.flatten.getD q 0)), .int v] (by omega) rfl rfl rfl rfl (fun Q' hQ' => m_isFlex hX (by show 1 ≤ B.1 - 1; omega) hQ') hk)
  generalize E.flatten.getD q 0 = b at hq second
  rcases fxI_or a with ha | ha <;> rcases fxI_or b with hb | hb <;> rw [pkI, ha, hb] at hq <;> rw [hb] at second <;> rw [ha]
  · refine hX (And.intro (fun _ => ?_) (fun h => absurd rfl h))
    iterate 1 refine hX ?_
    refine second 0 ?_
    refine hX (And.intro (fun _ => ?_) (fun h => absurd rfl h))
    iterate 7 refine hX ?_
    exact hq
  · refine hX (And.intro (fun _ => ?_) (fun h => absurd rfl h))
    iterate 1 refine hX ?_
    refine second 0 ?_
    refine hX (And.intro (fun h => absurd h (by decide)) (fun _ => ?_))
    iterate 8 refine hX ?_
    exact hq
  · refine hX (And.intro (fun h => absurd h (by decide)) (fun _ => ?_))
    iterate 2 refine hX ?_
    refine second 1 ?_
    refine hX (And.intro (fun _ => ?_) (fun h => absurd rfl h))
    iterate 7 refine hX ?_
    exact hq
  · refine hX (And.intro (fun h => absurd h (by decide)) (fun _ => ?_))
    iterate 2 refine hX ?_
    refine second 1 ?_
    refine hX (And.intro (fun h => absurd h (by decide)) (fun _ => ?_))
    iterate 8 refine hX ?_
    exact hq
theorem c_kindOf (hX : Cl sc X) (hB : 3 ≤ B.1) {me n : Nat} {ls : pL} {st' : List Value} {E : List (List Int32)} (hg : gE E) {Z : List (Nat × Nat)} (hP : plR Z f1 f2) (hZ : ∀ z ∈ Z, pOK E.flatten z) {i : Nat} (hi : i < Z.length) (hck : ckW [.ref 0, .int (nI i)] (.int (nI i) :: .ref 0 :: st') (MW (rowE E) fr pa st rf tx ln bo ss ai fi op dp wr wm f1 f2 pm ch sd sm pk sv sz vm hpz pl sg wt bu hsh) 2 3 = true) (hq : X B me n ls (.int (pkI (E.flatten.getD (Z.getD i (0, 0)).1 0) (E.flatten.getD (Z.getD i (0, 0)).2 0)) :: st') (MW (rowE E) fr pa st rf tx ln bo ss ai fi op dp wr wm f1 f2 pm ch sd sm pk sv sz vm hpz pl sg wt bu hsh) Q) : oCallV 160 11 2 3 n X B me ls (.int (nI i) :: .ref 0 :: st') (MW (rowE E) fr pa st rf tx ln bo ss ai fi op dp wr wm f1 f2 pm ch sd sm pk sv sz vm hpz pl sg wt bu hsh) Q := by
  obtain ⟨z1, z2⟩ := pOK_lt (hZ _ (getD_mem (d := (0, 0)) hi))
  have h40 := hg.1.2.1
  obtain ⟨g1, g2⟩ := pl_get hP hi
  exact And.intro trivial (cPw [.ref 0, .int (nI i)] (some (.int (pkI (E.flatten.getD (Z.getD i (0, 0)).1 0) (E.flatten.getD (Z.getD i (0, 0)).2 0)))) (by omega) hck rfl rfl (fun Q' hQ' => m_kindOf hX (by show 2 ≤ B.1 - 1; omega) hg (by have := hP.1.2.2; omega) ⟨hP.1.1, hP.1.2.1⟩ g1 g2 (by omega) (by omega) hQ') hq)
theorem m_tell_loop (hX : Cl sc X) (hB : 3 ≤ B.1) {E : List (List Int32)} (hg : gE E) {Z : List (Nat × Nat)} (hP : plR Z f1 f2) (hZ : ∀ z ∈ Z, pOK E.flatten z) {w : Int32} (hq : Q (some (.int (nI (hmN E.flatten Z w)))) (MW (rowE E) fr pa st rf tx ln bo ss ai fi op dp wr wm f1 f2 (nI Z.length) ch sd sm pk sv sz vm hpz pl sg wt bu hsh)) :
    ∀ (n i : Nat), i + n = Z.length → X B 161 8 [some (.ref 0), some (.int w), some (.int (nI (hmN E.flatten (Z.take i) w))), some (.int (nI i))] [] (MW (rowE E) fr pa st rf tx ln bo ss ai fi op dp wr wm f1 f2 (nI Z.length) ch sd sm pk sv sz vm hpz pl sg wt bu hsh) Q := by
  have h24 := hP.1.2.2
  intro n
  induction n with
  | zero =>
    intro i hi
    have : i = Z.length := by omega
    subst this
    rw [List.take_length]
    iterate 4 refine hX ?_
    refine And.intro (fun _ => ?_) (fun h => absurd (Int32.le_refl _) h)
    iterate 2 refine hX ?_
    exact hq
  | succ n ih =>
    intro i hi
    have hk := ih (i + 1) (by omega)
    rw [take_succ_getD (0, 0) (by omega)] at hk
    have hsp : ∀ z, hmN E.flatten (Z.take i ++ [z]) w = hmN E.flatten (Z.take i) w + hmN E.flatten [z] w := by
      intro z
      rw [hmN, List.filter_append, List.length_append]
      rfl
    rw [hsp] at hk
    iterate 4 refine hX ?_
    refine And.intro (fun h => absurd ((nle (by omega) (by omega)).mp h) (by omega)) (fun _ => ?_)
    generalize hz : Z.getD i (0, 0) = z at hk
    have one : w = 0 ∨ pkI (E.flatten.getD z.1 0) (E.flatten.getD z.2 0) = w → X B 161 30 [some (.ref 0), some (.int w), some (.int (nI (hmN E.flatten (Z.take i) w))), some (.int (nI i))] [.int (nI (hmN E.flatten (Z.take i) w))] (MW (rowE E) fr pa st rf tx ln bo ss ai fi op dp wr wm f1 f2 (nI Z.length) ch sd sm pk sv sz vm hpz pl sg wt bu hsh) Q := by
      intro h
      have e : hmN E.flatten [z] w = 1 := by rw [hmN, List.filter_cons_of_pos (by simpa using h)]; rfl
      rw [e] at hk
      iterate 6 refine hX ?_
      rw [show nI i + 1 = nI (i + 1) from (nI_succ i).symm, show nI (hmN E.flatten (Z.take i) w) + 1 = nI (hmN E.flatten (Z.take i) w + 1) from (nI_succ _).symm]
      exact hk
    iterate 3 refine hX ?_
    refine And.intro (fun h => one (Or.inl h)) (fun h => ?_)
    iterate 3 refine hX ?_
    refine c_kindOf hX hB hg hP hZ (by omega) rfl ?_
    rw [hz]
    iterate 2 refine hX ?_
    refine And.intro (fun h2 => one (Or.inr h2)) (fun h2 => ?_)
    have e : hmN E.flatten [z] w = 0 := by rw [hmN, List.filter_cons_of_neg (by rw [decide_eq_true_eq]; exact fun q => q.elim h h2)]; rfl
    rw [e, Nat.add_zero] at hk
    iterate 5 refine hX ?_
    rw [show nI i + 1 = nI (i + 1) from (nI_succ i).symm, show nI (hmN E.flatten (Z.take i) w) + 0 = nI (hmN E.flatten (Z.take i) w) from nadd _ 0]
    exact hk
theorem m_tellPairs (hX : Cl sc X) (hB : 7 ≤ B.1) {E : List (List Int32)} (hg : gE E) (hf : f1.length = 24 ∧ f2.length = 24) {w : Int32} (hq : ∀ g1 g2 pm', g1.length = 24 → g2.length = 24 → Q (some (.int (nI (hmN E.flatten (prs E.flatten E 0) w)))) (MW (rowE E) fr pa st rf tx ln bo ss ai fi op dp wr wm g1 g2 pm' ch sd sm pk sv sz vm hpz pl sg wt bu hsh)) : X B 161 0 [some (.ref 0), some (.int w), none, none] [] (MW (rowE E) fr pa st rf tx ln bo ss ai fi op dp wr wm f1 f2 pm ch sd sm pk sv sz vm hpz pl sg wt bu hsh) Q := by
  iterate 2 refine hX ?_
  refine And.intro trivial (cMw [.ref 0] (fun u : List Int32 × List Int32 => plR (prs E.flatten E 0) u.1 u.2 ∧ (prs E.flatten E 0).length ≤ 20) (fun _ => none) (fun u => (MW (rowE E) fr pa st rf tx ln bo ss ai fi op dp wr wm u.1 u.2 (nI (prs E.flatten E 0).length) ch sd sm pk sv sz vm hpz pl sg wt bu hsh)) (by omega) rfl rfl (fun _ => rfl) (fun _ => rfl) (fun _ => rfl) (fun Q' hQ' => m_laysPairs hX (by show 6 ≤ B.1 - 1; omega) hg hf (fun a b c d => hQ' (a, b) ⟨c, d⟩)) (fun u hu => ?_))
  iterate 4 refine hX ?_
  exact m_tell_loop hX (by omega) hg hu.1 (prs_ok hg) (hq u.1 u.2 _ hu.1.1.1 hu.1.1.2.1) (prs E.flatten E 0).length 0 (by omega)
theorem m_pairs (hX : Cl sc X) (hB : 8 ≤ B.1) (hr3 : rf.length = 3) {E : List (List Int32)} (hg : gE E) (hf : f1.length = 24 ∧ f2.length = 24) {w : Int32} (hq0 : ¬ (¬ w < 0 ∧ w < 4) → Q (some (.int (-2))) (MW (rowE E) fr pa st (bmp rf 0) tx ln bo ss ai fi op dp wr wm f1 f2 pm ch sd sm pk sv sz vm hpz pl sg wt bu hsh)) (hq1 : ¬ w < 0 ∧ w < 4 → ∀ g1 g2 pm', g1.length = 24 → g2.length = 24 → Q (some (.int (nI (hmN E.flatten (prs E.flatten E 0) w)))) (MW (rowE E) fr pa st rf tx ln bo ss ai fi op dp wr wm g1 g2 pm' ch sd sm pk sv sz vm hpz pl sg wt bu hsh)) : X B 162 0 [some (.ref 0), some (.int w)] [] (MW (rowE E) fr pa st rf tx ln bo ss ai fi op dp wr wm f1 f2 pm ch sd sm pk sv sz vm hpz pl sg wt bu hsh) Q := by
  iterate 4 refine hX ?_
  refine cP [] [.int w, .int 0, .int 3] [] (some (.int (wiI w 0 3))) [.int (wiI w 0 3)] (by omega) rfl rfl rfl rfl (fun Q' hQ' => m_within hX hQ') ?_
  rw [show wiI w 0 3 = hsI w 4 from wi_hs (e := w) (n := 4) (by omega)]
  by_cases hw : ¬ w < 0 ∧ w < 4
  · rw [show hsI w 4 = 1 from if_pos hw]
    refine hX (And.intro (fun h => absurd h (by decide)) (fun _ => ?_))
    iterate 3 refine hX ?_
    refine And.intro trivial (cMw [.ref 0, .int w] (fun u : List Int32 × List Int32 × Int32 => u.1.length = 24 ∧ u.2.1.length = 24) (fun _ => some (.int (nI (hmN E.flatten (prs E.flatten E 0) w)))) (fun u => (MW (rowE E) fr pa st rf tx ln bo ss ai fi op dp wr wm u.1 u.2.1 u.2.2 ch sd sm pk sv sz vm hpz pl sg wt bu hsh)) (by omega) rfl rfl (fun _ => rfl) (fun _ => rfl) (fun _ => rfl) (fun Q' hQ' => m_tellPairs hX (by show 7 ≤ B.1 - 1; omega) hg hf (fun a b c d e => hQ' (a, b, c) ⟨d, e⟩)) (fun u hu => ?_))
    iterate 2 refine hX ?_
    exact hq1 hw u.1 u.2.1 u.2.2 hu.1 hu.2
  · rw [show hsI w 4 = 0 from if_neg hw]
    refine hX (And.intro (fun _ => ?_) (fun h => absurd rfl h))
    iterate 2 refine hX ?_
    refine c_mbad hX (by omega) hr3 ?_
    refine hX ?_
    exact hq0 hw
theorem m_waysOf (hX : Cl sc X) (hB : 3 ≤ B.1) {E : List (List Int32)} (hg : gE E) {Z : List (Nat × Nat)} (hP : plR Z f1 f2) (hZ : ∀ z ∈ Z, pOK E.flatten z) {i : Nat} (hi : i < Z.length) (hq : Q (some (.int (pwI (E.flatten.getD (Z.getD i (0, 0)).1 0) (E.flatten.getD (Z.getD i (0, 0)).2 0)))) (MW (rowE E) fr pa st rf tx ln bo ss ai fi op dp wr wm f1 f2 pm ch sd sm pk sv sz vm hpz pl sg wt bu hsh)) : X B 163 0 [some (.ref 0), some (.int (nI i)), none] [] (MW (rowE E) fr pa st rf tx ln bo ss ai fi op dp wr wm f1 f2 pm ch sd sm pk sv sz vm hpz pl sg wt bu hsh) Q := by
  have hl := rowE_len hg
  have h24 := hP.1.2.2
  have h40 := hg.1.2.1
  obtain ⟨l1, l2, -⟩ := hP.1
  obtain ⟨z1, z2⟩ := pOK_lt (hZ _ (getD_mem (d := (0, 0)) hi))
  obtain ⟨g1, g2⟩ := pl_get hP hi
  have kd1 := hg.2.2 _ (getD_mem (d := 0) z1)
  have kd2 := hg.2.2 _ (getD_mem (d := 0) z2)
  have rest : ∀ c, ¬ kdI c = -1 → c = (if fxI (E.flatten.getD (Z.getD i (0, 0)).1 0) = 1 then E.flatten.getD (Z.getD i (0, 0)).1 0 else E.flatten.getD (Z.getD i (0, 0)).2 0) → X B 163 42 [some (.ref 0), some (.int (nI i)), none] [.int c] (MW (rowE E) fr pa st rf tx ln bo ss ai fi op dp wr wm f1 f2 pm ch sd sm pk sv sz vm hpz pl sg wt bu hsh) Q := by
    intro c hc he
    iterate 4 refine hX ?_
    refine c_kindOf hX hB hg hP hZ hi rfl ?_
    rw [pwI, ← he] at hq
    iterate 2 refine hX ?_
    refine And.intro (fun h => ?_) (fun h => ?_)
    · rw [if_pos h] at hq
      iterate 3 refine hX ?_
      refine (cP [] [.int c] [] (some (.int (prI c))) [.int (prI c), .int 1] (by omega) rfl rfl rfl rfl (fun Q' hQ' => m_partsOf hX (by show 2 ≤ B.1 - 1; omega) hQ') ?_)
      rw [prI_let hc, ← arI_eq]
      iterate 3 refine hX ?_
      exact hq
    · rw [if_neg h] at hq
      iterate 2 refine hX ?_
      exact hq
  iterate 6 refine hX ?_
  refine And.intro (vp_in_nI (by omega) (by omega)) ?_
  rw [nI_clamp (by omega), g1]
  refine hX ?_
  refine And.intro (vp_in_nI (by omega) (by omega)) ?_
  rw [nI_clamp (by omega), rowE_let hg]
  refine hX (cP [] [.int (E.flatten.getD (Z.getD i (0, 0)).1 0)] [] (some (.int (fxI (E.flatten.getD (Z.getD i (0, 0)).1 0)))) [.int (fxI (E.flatten.getD (Z.getD i (0, 0)).1 0))] (by omega) rfl rfl rfl rfl (fun Q' hQ' => m_isFlex hX (by show 1 ≤ B.1 - 1; omega) hQ') ?_)
  rcases fxI_or (E.flatten.getD (Z.getD i (0, 0)).1 0) with hf | hf
  · rw [hf]
    refine hX (And.intro (fun _ => ?_) (fun h => absurd rfl h))
    iterate 6 refine hX ?_
    refine And.intro (vp_in_nI (by omega) (by omega)) ?_
    rw [nI_clamp (by omega), g2]
    refine hX ?_
    refine And.intro (vp_in_nI (by omega) (by omega)) ?_
    rw [nI_clamp (by omega), rowE_let hg]
    exact rest _ kd2 (by rw [hf, if_neg (by decide)])
  · rw [hf]
    refine hX (And.intro (fun h => absurd h (by decide)) (fun _ => ?_))
    iterate 6 refine hX ?_
    refine And.intro (vp_in_nI (by omega) (by omega)) ?_
    rw [nI_clamp (by omega), g1]
    refine hX ?_
    refine And.intro (vp_in_nI (by omega) (by omega)) ?_
    rw [nI_clamp (by omega), rowE_let hg]
    refine hX ?_
    exact rest _ kd1 (by rw [hf, if_pos rfl])
theorem m_pair (hX : Cl sc X) (hB : 8 ≤ B.1) (hr3 : rf.length = 3) {E : List (List Int32)} (hg : gE E) (hf : f1.length = 24 ∧ f2.length = 24) {i w : Int32} (hq0 : ¬ (¬ i < 0 ∧ ¬ w < 0 ∧ w < 6) → Q (some (.int (-2))) (MW (rowE E) fr pa st (bmp rf 0) tx ln bo ss ai fi op dp wr wm f1 f2 pm ch sd sm pk sv sz vm hpz pl sg wt bu hsh)) (hq1 : ¬ i < 0 ∧ ¬ w < 0 ∧ w < 6 → ∀ g1 g2 pm', g1.length = 24 → g2.length = 24 → Q (some (.int (if i.toNatClampNeg < (prs E.flatten E 0).length then prF E.flatten ((prs E.flatten E 0).getD i.toNatClampNeg (0, 0)) w.toNatClampNeg else -5))) (MW (rowE E) fr pa st rf tx ln bo ss ai fi op dp wr wm g1 g2 pm' ch sd sm pk sv sz vm hpz pl sg wt bu hsh)) : X B 164 0 [some (.ref 0), some (.int i), some (.int w)] [] (MW (rowE E) fr pa st rf tx ln bo ss ai fi op dp wr wm f1 f2 pm ch sd sm pk sv sz vm hpz pl sg wt bu hsh) Q := by
  have hl := rowE_len hg
  have h40 := hg.1.2.1
  have bad : ¬ (¬ i < 0 ∧ ¬ w < 0 ∧ w < 6) → X B 164 13 [some (.ref 0), some (.int i), some (.int w)] [] (MW (rowE E) fr pa st rf tx ln bo ss ai fi op dp wr wm f1 f2 pm ch sd sm pk sv sz vm hpz pl sg wt bu hsh) Q := by
    intro h
    iterate 2 refine hX ?_
    refine c_mbad hX (by omega) hr3 ?_
    refine hX ?_
    exact hq0 h
  iterate 2 refine hX ?_
  refine And.intro (fun h => bad (fun q => q.1 h)) (fun hi => ?_)
  iterate 4 refine hX ?_
  refine cP [] [.int w, .int 0, .int 5] [] (some (.int (wiI w 0 5))) [.int (wiI w 0 5)] (by omega) rfl rfl rfl rfl (fun Q' hQ' => m_within hX hQ') ?_
  rw [show wiI w 0 5 = hsI w 6 from wi_hs (e := w) (n := 6) (by omega)]
  by_cases hw : ¬ w < 0 ∧ w < 6
  case neg =>
    rw [show hsI w 6 = 0 from if_neg hw]
    exact hX (And.intro (fun _ => bad (fun q => hw q.2)) (fun h => absurd rfl h))
  have hw1 : hsI w 6 = 1 := if_pos hw
  rw [hw1]
  refine hX (And.intro (fun h => absurd h (by decide)) (fun _ => ?_))
  have hq2 := hq1 ⟨hi, hw⟩
  obtain ⟨m, rfl, hm, hmc⟩ := i_nat hi
  obtain ⟨k, rfl, hk, hkc⟩ := hsI_is (by omega) hw1
  rw [hmc, hkc] at hq2
  iterate 2 refine hX ?_
  refine And.intro trivial (cMw [.ref 0] (fun u : List Int32 × List Int32 => plR (prs E.flatten E 0) u.1 u.2 ∧ (prs E.flatten E 0).length ≤ 20) (fun _ => none) (fun u => (MW (rowE E) fr pa st rf tx ln bo ss ai fi op dp wr wm u.1 u.2 (nI (prs E.flatten E 0).length) ch sd sm pk sv sz vm hpz pl sg wt bu hsh)) (by omega) rfl rfl (fun _ => rfl) (fun _ => rfl) (fun _ => rfl) (fun Q' hQ' => m_laysPairs hX (by show 6 ≤ B.1 - 1; omega) hg hf (fun a b c d => hQ' (a, b) ⟨c, d⟩)) (fun u hu => ?_))
  obtain ⟨g1, g2⟩ := u
  obtain ⟨hP, h20⟩ := hu
  dsimp only at hP ⊢
  have hZ := prs_ok hg
  have hq3 := hq2 g1 g2 (nI (prs E.flatten E 0).length) hP.1.1 hP.1.2.1
  generalize prs E.flatten E 0 = Z at hP hZ hq3 h20
  iterate 4 refine hX ?_
  by_cases hmZ : m < Z.length
  case neg =>
    rw [if_neg hmZ] at hq3
    refine And.intro (fun h => absurd ((nlt (by omega) (by omega)).mp h) hmZ) (fun _ => ?_)
    iterate 2 refine hX ?_
    exact hq3
  rw [if_pos hmZ] at hq3
  refine And.intro (fun _ => ?_) (fun h => absurd ((nlt (by omega) (by omega)).mpr hmZ) h)
  obtain ⟨z1, z2⟩ := pOK_lt (hZ _ (getD_mem (d := (0, 0)) hmZ))
  obtain ⟨b1, b2⟩ := pl_get hP hmZ
  have hzk := hZ _ (getD_mem (d := (0, 0)) hmZ)
  obtain ⟨l1, l2, -⟩ := hP.1
  iterate 2 refine hX ?_
  rcases (show k = 0 ∨ k = 1 ∨ k = 2 ∨ k = 3 ∨ k = 4 ∨ k = 5 by omega) with rfl | rfl | rfl | rfl | rfl | rfl
  · refine And.intro (fun _ => ?_) (fun h => absurd rfl h)
    iterate 6 refine hX ?_
    refine And.intro (vp_in_nI (by omega) (by omega)) ?_
    rw [nI_clamp (by omega), b1]
    refine hX ?_
    refine And.intro (vp_in_nI (by omega) (by omega)) ?_
    rw [nI_clamp (by omega), rowE_let hg]
    refine hX ?_
    exact hq3
  · refine And.intro (fun h => absurd h (by decide)) (fun _ => And.intro (fun _ => ?_) (fun h => absurd rfl h))
    iterate 6 refine hX ?_
    refine And.intro (vp_in_nI (by omega) (by omega)) ?_
    rw [nI_clamp (by omega), b2]
    refine hX ?_
    refine And.intro (vp_in_nI (by omega) (by omega)) ?_
    rw [nI_clamp (by omega), rowE_let hg]
    refine hX ?_
    exact hq3
  · refine And.intro (fun h => absurd h (by decide)) (fun _ => And.intro (fun h => absurd h (by decide)) (fun _ => And.intro (fun _ => ?_) (fun h => absurd rfl h)))
    obtain ⟨x, xr, y, yr, d1, o1, d2, o2, ho⟩ := hzk
    obtain ⟨r1, r2, r3⟩ := row_at hg d1 (okF_pos o1 (by omega))
    iterate 5 refine hX ?_
    refine And.intro (vp_in_nI (by omega) (by omega)) ?_
    rw [nI_clamp (by omega), b1]
    refine hX ?_
    refine c_behind hX (by omega) hl r1 o1 r3 rfl ?_
    iterate 4 refine hX ?_
    refine And.intro (vp_in_nI (by omega) (by omega)) ?_
    rw [nI_clamp (by omega), b1]
    iterate 2 refine hX ?_
    rw [nsub (by omega), Nat.add_sub_cancel_left]
    rw [show prF E.flatten (Z.getD m (0, 0)) 2 = nI x.length by rw [prF, if_neg (by decide), if_neg (by decide), if_pos rfl, d1, okF_tlen x xr 1 o1]] at hq3
    exact hq3
  · refine And.intro (fun h => absurd h (by decide)) (fun _ => And.intro (fun h => absurd h (by decide)) (fun _ => And.intro (fun h => absurd h (by decide)) (fun _ => And.intro (fun _ => ?_) (fun h => absurd rfl h))))
    obtain ⟨x, xr, y, yr, d1, o1, d2, o2, ho⟩ := hzk
    obtain ⟨r1, r2, r3⟩ := row_at hg d2 (okF_pos o2 (by omega))
    iterate 5 refine hX ?_
    refine And.intro (vp_in_nI (by omega) (by omega)) ?_
    rw [nI_clamp (by omega), b2]
    refine hX ?_
    refine c_behind hX (by omega) hl r1 o2 r3 rfl ?_
    iterate 4 refine hX ?_
    refine And.intro (vp_in_nI (by omega) (by omega)) ?_
    rw [nI_clamp (by omega), b2]
    iterate 2 refine hX ?_
    rw [nsub (by omega), Nat.add_sub_cancel_left]
    rw [show prF E.flatten (Z.getD m (0, 0)) 3 = nI y.length by rw [prF, if_neg (by decide), if_neg (by decide), if_neg (by decide), if_pos rfl, d2, okF_tlen y yr 1 o2]] at hq3
    exact hq3
  · refine And.intro (fun h => absurd h (by decide)) (fun _ => And.intro (fun h => absurd h (by decide)) (fun _ => And.intro (fun h => absurd h (by decide)) (fun _ => And.intro (fun h => absurd h (by decide)) (fun _ => And.intro (fun _ => ?_) (fun h => absurd rfl h)))))
    iterate 3 refine hX ?_
    refine c_kindOf hX (by omega) hg hP hZ hmZ rfl ?_
    refine hX ?_
    exact hq3
  · refine And.intro (fun h => absurd h (by decide)) (fun _ => And.intro (fun h => absurd h (by decide)) (fun _ => And.intro (fun h => absurd h (by decide)) (fun _ => And.intro (fun h => absurd h (by decide)) (fun _ => And.intro (fun h => absurd h (by decide)) (fun _ => ?_)))))
    iterate 3 refine hX ?_
    refine And.intro trivial (cPw [.ref 0, .int (nI m)] (some (.int (pwI (E.flatten.getD (Z.getD m (0, 0)).1 0) (E.flatten.getD (Z.getD m (0, 0)).2 0)))) (by omega) rfl rfl rfl (fun Q' hQ' => m_waysOf hX (by show 3 ≤ B.1 - 1; omega) hg hP hZ hmZ hQ') ?_)
    refine hX ?_
    exact hq3
theorem m_all_loop (hX : Cl sc X) {E : List (List Int32)} (hg : gE E) (hq : Q (some (.int (nI E.flatten.length))) (MW (rowE E) fr pa st rf tx ln bo ss ai fi op dp wr wm f1 f2 pm ch sd sm pk sv sz vm hpz pl sg wt bu hsh)) : ∀ (n k : Nat), k + n = E.length → X B 165 4 [some (.ref 0), some (.int (nI (pre E k))), some (.int (nI k))] [] (MW (rowE E) fr pa st rf tx ln bo ss ai fi op dp wr wm f1 f2 pm ch sd sm pk sv sz vm hpz pl sg wt bu hsh) Q := by
  have hl := rowE_len hg
  have h8 := hg.1.1
  have hev := hg.1.2.2
  have e2 : (2 : Int32) * nI (E.length / 2) = nI E.length := by rw [show (2 : Int32) = nI 2 from rfl, nmul]; congr 1; omega
  intro n
  induction n with
  | zero =>
    intro k hk
    have : k = E.length := by omega
    subst this
    iterate 6 refine hX ?_
    refine And.intro (vp_in_nI (n := 0) (by omega) (by omega)) ?_
    rw [show Int32.toNatClampNeg 0 = 0 from rfl, rowE_0]
    iterate 2 refine hX ?_
    rw [e2]
    refine And.intro (fun _ => ?_) (fun h => absurd (Int32.le_refl _) h)
    iterate 2 refine hX ?_
    rw [pre, List.take_length]
    exact hq
  | succ n ih =>
    intro k hk
    iterate 6 refine hX ?_
    refine And.intro (vp_in_nI (n := 0) (by omega) (by omega)) ?_
    rw [show Int32.toNatClampNeg 0 = 0 from rfl, rowE_0]
    iterate 2 refine hX ?_
    rw [e2]
    refine And.intro (fun h => absurd ((nle (by omega) (by omega)).mp h) (by omega)) (fun _ => ?_)
    iterate 7 refine hX ?_
    rw [show (1 : Int32) + nI k = nI (k + 1) by rw [show (1 : Int32) = nI 1 from rfl, nadd, Nat.add_comm]]
    refine And.intro (vp_in_nI (by omega) (by omega)) ?_
    rw [nI_clamp (by omega), rowE_side hg (by omega)]
    iterate 4 refine hX ?_
    rw [nadd, ← pre_succ, show nI k + 1 = nI (k + 1) from (nI_succ k).symm]
    exact ih (k + 1) (by omega)
theorem c_all (hX : Cl sc X) (hB : 1 ≤ B.1) {me n : Nat} {ls : pL} {st' : List Value} {E : List (List Int32)} (hg : gE E) (hck : ckW [.ref 0] (.ref 0 :: st') (MW (rowE E) fr pa st rf tx ln bo ss ai fi op dp wr wm f1 f2 pm ch sd sm pk sv sz vm hpz pl sg wt bu hsh) 1 3 = true) (hq : X B me n ls (.int (nI E.flatten.length) :: st') (MW (rowE E) fr pa st rf tx ln bo ss ai fi op dp wr wm f1 f2 pm ch sd sm pk sv sz vm hpz pl sg wt bu hsh) Q) : oCallV 165 11 1 3 n X B me ls (.ref 0 :: st') (MW (rowE E) fr pa st rf tx ln bo ss ai fi op dp wr wm f1 f2 pm ch sd sm pk sv sz vm hpz pl sg wt bu hsh) Q :=
  And.intro trivial (cPw [.ref 0] (some (.int (nI E.flatten.length))) hB hck rfl rfl (fun Q' hQ' => by
    iterate 4 refine hX ?_
    exact m_all_loop hX hg hQ' E.length 0 (by omega)) hq)
theorem row_all {E : List (List Int32)} (hg : gE E) : (((rowE E).drop 9).take E.flatten.length).foldl flS 0 = nI (flb E.flatten 0) := by
  have := row_drop hg (Nat.zero_le E.flatten.length)
  rw [Nat.add_zero, List.drop_zero] at this
  rw [this, List.take_left, flS_side]
theorem c_flexAll (hX : Cl sc X) (hB : 3 ≤ B.1) {me n : Nat} {ls : pL} {E : List (List Int32)} (hg : gE E) (hq : X B me n ls [.int (nI (flb E.flatten 0))] (MW (rowE E) fr pa st rf tx ln bo ss ai fi op dp wr wm f1 f2 pm ch sd sm pk sv sz vm hpz pl sg wt bu hsh) Q) : oCallV 145 11 3 5 n X B me ls [.int (nI E.flatten.length), .int 9, .ref 0] (MW (rowE E) fr pa st rf tx ln bo ss ai fi op dp wr wm f1 f2 pm ch sd sm pk sv sz vm hpz pl sg wt bu hsh) Q := by
  have h40 := hg.1.2.1
  exact And.intro trivial (cPw [.ref 0, .int 9, .int (nI E.flatten.length)] (some (.int (nI (flb E.flatten 0)))) (by omega) rfl rfl rfl (fun Q' hQ' => m_flexIn (a := 9) hX (by show 2 ≤ B.1 - 1; omega) (rowE_len hg) (by omega) (by rw [row_all hg]; exact hQ')) hq)
/-- how often calls were refused -/
def rfR (bd no fu : Nat) : List Int32 := [nI bd, nI no, nI fu]
theorem m_toldOf (hX : Cl sc X) (hB : 4 ≤ B.1) {s : St} (hg : gE s.2.1) {w : Nat} (hw : w < 8) (hq : Q (some (.int (fcN s w))) (MW (rowE s.2.1) fr pa (nI s.2.2.1.length) (rfR s.2.2.2.1 s.2.2.2.2.1 s.2.2.2.2.2) tx (nI s.1.length) bo ss ai fi op dp wr wm f1 f2 pm ch sd sm pk sv sz vm hpz pl sg wt bu hsh)) : X B 184 0 [some (.ref 0), some (.int (nI w))] [] (MW (rowE s.2.1) fr pa (nI s.2.2.1.length) (rfR s.2.2.2.1 s.2.2.2.2.1 s.2.2.2.2.2) tx (nI s.1.length) bo ss ai fi op dp wr wm f1 f2 pm ch sd sm pk sv sz vm hpz pl sg wt bu hsh) Q := by
  have hl := rowE_len hg
  have low : ∀ k, k < 3 → w = k → X B 184 69 [some (.ref 0), some (.int (nI w))] [] (MW (rowE s.2.1) fr pa (nI s.2.2.1.length) (rfR s.2.2.2.1 s.2.2.2.2.1 s.2.2.2.2.2) tx (nI s.1.length) bo ss ai fi op dp wr wm f1 f2 pm ch sd sm pk sv sz vm hpz pl sg wt bu hsh) Q := by
    intro k hk he
    subst he
    iterate 4 refine hX ?_
    refine And.intro (vp_in_nI (N := 3) hk (by decide)) ?_
    rw [nI_clamp (by omega)]
    refine hX ?_
    rcases (show w = 0 ∨ w = 1 ∨ w = 2 by omega) with rfl | rfl | rfl <;> exact hq
  iterate 2 refine hX ?_
  rcases (show w = 0 ∨ w = 1 ∨ w = 2 ∨ w = 3 ∨ w = 4 ∨ w = 5 ∨ w = 6 ∨ w = 7 by omega) with rfl | rfl | rfl | rfl | rfl | rfl | rfl | rfl
  · exact And.intro (fun h => absurd h (by decide)) (fun _ => And.intro (fun h => absurd h (by decide)) (fun _ => And.intro (fun h => absurd h (by decide)) (fun _ => And.intro (fun h => absurd h (by decide)) (fun _ => And.intro (fun h => absurd h (by decide)) (fun _ => low 0 (by omega) rfl)))))
  · exact And.intro (fun h => absurd h (by decide)) (fun _ => And.intro (fun h => absurd h (by decide)) (fun _ => And.intro (fun h => absurd h (by decide)) (fun _ => And.intro (fun h => absurd h (by decide)) (fun _ => And.intro (fun h => absurd h (by decide)) (fun _ => low 1 (by omega) rfl)))))
  · exact And.intro (fun h => absurd h (by decide)) (fun _ => And.intro (fun h => absurd h (by decide)) (fun _ => And.intro (fun h => absurd h (by decide)) (fun _ => And.intro (fun h => absurd h (by decide)) (fun _ => And.intro (fun h => absurd h (by decide)) (fun _ => low 2 (by omega) rfl)))))
  · refine And.intro (fun _ => ?_) (fun h => absurd rfl h)
    iterate 3 refine hX ?_
    exact hq
  · refine And.intro (fun h => absurd h (by decide)) (fun _ => And.intro (fun _ => ?_) (fun h => absurd rfl h))
    iterate 4 refine hX ?_
    refine And.intro (vp_in_nI (n := 0) (by omega) (by omega)) ?_
    refine hX ?_
    exact hq
  · refine And.intro (fun h => absurd h (by decide)) (fun _ => And.intro (fun h => absurd h (by decide)) (fun _ => And.intro (fun _ => ?_) (fun h => absurd rfl h)))
    iterate 2 refine hX ?_
    refine c_all hX (by omega) hg rfl ?_
    refine hX ?_
    exact hq
  · refine And.intro (fun h => absurd h (by decide)) (fun _ => And.intro (fun h => absurd h (by decide)) (fun _ => And.intro (fun h => absurd h (by decide)) (fun _ => And.intro (fun _ => ?_) (fun h => absurd rfl h))))
    iterate 4 refine hX ?_
    refine c_all hX (by omega) hg rfl ?_
    refine hX ?_
    refine c_flexAll hX (by omega) hg ?_
    refine hX ?_
    exact hq
  · refine And.intro (fun h => absurd h (by decide)) (fun _ => And.intro (fun h => absurd h (by decide)) (fun _ => And.intro (fun h => absurd h (by decide)) (fun _ => And.intro (fun h => absurd h (by decide)) (fun _ => And.intro (fun _ => ?_) (fun h => absurd rfl h)))))
    iterate 3 refine hX ?_
    exact hq
end MJ
