/-! The model: equations by number; drops, turns. -/
theorem pre_succ (E : List (List Int32)) (k : Nat) : pre E (k + 1) = pre E k + (E.getD k []).length := by
  rw [pre, pre, List.take_succ, List.flatten_append, List.length_append, List.getD_eq_getElem?_getD]
  cases E[k]? with
  | none => rfl
  | some t => simp
theorem pre_leF (E : List (List Int32)) (k : Nat) : pre E k ≤ E.flatten.length := by
  have h : E.flatten = (E.take k).flatten ++ (E.drop k).flatten := by rw [← List.flatten_append, List.take_append_drop]
  rw [pre, h, List.length_append]
  omega
theorem wi_hs {e : Int32} {n : Nat} (hn : n < 2147483648) : wiI e 0 (nI n - 1) = hsI e n := by
  have h1 : (nI n - 1 : Int32).toInt = (n : Int) - 1 := by
    cases n with
    | zero => decide
    | succ n => rw [nI_pred, nI_toInt (by omega)]; omega
  unfold wiI hsI
  have h2 : (0 ≤ e ∧ e ≤ nI n - 1) ↔ (¬ e < 0 ∧ e < nI n) := by
    rw [Int32.not_lt, Int32.le_iff_toInt_le (y := nI n - 1), Int32.lt_iff_toInt_lt, h1, nI_toInt hn]
    constructor
    · rintro ⟨a, b⟩; exact ⟨a, by omega⟩
    · rintro ⟨a, b⟩; exact ⟨a, by omega⟩
  by_cases h : ¬ e < 0 ∧ e < nI n
  · rw [if_pos h, if_pos (h2.mpr h)]
  · rw [if_neg h, if_neg (fun q => h (h2.mp q))]
section MF
variable {sc : List Int32} {X : pX} {B : pB} {Q : pQ} {nw fr pa rf tx bo ss op wr f1 f2 ch sd pk sv sz hpz pl sg bu : List Int32} {st ln ai fi dp wm pm sm vm wt : Int32} {hsh : Int64}
theorem m_isEquation (hX : Cl sc X) (hB : 1 ≤ B.1) {E : List (List Int32)} (hg : gE E) {e : Int32} (hq : Q (some (.int (hsI e (E.length / 2)))) (MW (rowE E) fr pa st rf tx ln bo ss ai fi op dp wr wm f1 f2 pm ch sd sm pk sv sz vm hpz pl sg wt bu hsh)) : X B 139 0 [some (.ref 0), some (.int e)] [] (MW (rowE E) fr pa st rf tx ln bo ss ai fi op dp wr wm f1 f2 pm ch sd sm pk sv sz vm hpz pl sg wt bu hsh) Q := by
  have hl := rowE_len hg
  have h8 := hg.1.1
  iterate 6 refine hX ?_
  refine And.intro (vp_in_nI (n := 0) (by omega) (by omega)) ?_
  rw [show Int32.toNatClampNeg 0 = 0 from rfl, rowE_0]
  iterate 3 refine hX ?_
  refine cP [] [.int e, .int 0, .int (nI (E.length / 2) - 1)] [] (some (.int (wiI e 0 (nI (E.length / 2) - 1)))) [.int (wiI e 0 (nI (E.length / 2) - 1))] hB rfl rfl rfl rfl (fun Q' hQ' => m_within hX hQ') ?_
  rw [wi_hs (by omega)]
  refine hX ?_
  exact And.intro (hsI_or e _) hq
theorem c_isEq (hX : Cl sc X) (hB : 2 ≤ B.1) {me n : Nat} {ls : pL} {E : List (List Int32)} (hg : gE E) {e : Int32} (hq : X B me n ls [.int (hsI e (E.length / 2))] (MW (rowE E) fr pa st rf tx ln bo ss ai fi op dp wr wm f1 f2 pm ch sd sm pk sv sz vm hpz pl sg wt bu hsh) Q) : oCallV 139 11 2 2 n X B me ls [.int e, .ref 0] (MW (rowE E) fr pa st rf tx ln bo ss ai fi op dp wr wm f1 f2 pm ch sd sm pk sv sz vm hpz pl sg wt bu hsh) Q :=
  And.intro trivial (cPw [.ref 0, .int e] (some (.int (hsI e (E.length / 2)))) (by omega) rfl rfl rfl (fun Q' hQ' => m_isEquation hX (by show 1 ≤ B.1 - 1; omega) hg hQ') hq)
theorem c_mbad (hX : Cl sc X) (hB : 1 ≤ B.1) {me n : Nat} {ls : pL} (hr : rf.length = 3) (hq : X B me n ls [.int (-2)] (MW nw fr pa st (bmp rf 0) tx ln bo ss ai fi op dp wr wm f1 f2 pm ch sd sm pk sv sz vm hpz pl sg wt bu hsh) Q) : oCallV 115 11 1 1 n X B me ls [.ref 0] (MW nw fr pa st rf tx ln bo ss ai fi op dp wr wm f1 f2 pm ch sd sm pk sv sz vm hpz pl sg wt bu hsh) Q :=
  And.intro trivial (cDw [.ref 0] (some (.int (-2))) (MW nw fr pa st (bmp rf 0) tx ln bo ss ai fi op dp wr wm f1 f2 pm ch sd sm pk sv sz vm hpz pl sg wt bu hsh) hB rfl rfl rfl rfl rfl (fun Q' hQ' => m_bad hX hr hQ') hq)
theorem c_mno (hX : Cl sc X) (hB : 1 ≤ B.1) {me n : Nat} {ls : pL} (hr : rf.length = 3) (hq : X B me n ls [.int (-3)] (MW nw fr pa st (bmp rf 1) tx ln bo ss ai fi op dp wr wm f1 f2 pm ch sd sm pk sv sz vm hpz pl sg wt bu hsh) Q) : oCallV 116 11 1 1 n X B me ls [.ref 0] (MW nw fr pa st rf tx ln bo ss ai fi op dp wr wm f1 f2 pm ch sd sm pk sv sz vm hpz pl sg wt bu hsh) Q :=
  And.intro trivial (cDw [.ref 0] (some (.int (-3))) (MW nw fr pa st (bmp rf 1) tx ln bo ss ai fi op dp wr wm f1 f2 pm ch sd sm pk sv sz vm hpz pl sg wt bu hsh) hB rfl rfl rfl rfl rfl (fun Q' hQ' => m_no hX hr hQ') hq)
theorem m_nodesOf (hX : Cl sc X) {E : List (List Int32)} (hg : gE E) {i j : Nat} (h8 : 2 * i + j < 8) (hq : Q (some (.int (nI (E.getD (2 * i + j) []).length))) (MW (rowE E) fr pa st rf tx ln bo ss ai fi op dp wr wm f1 f2 pm ch sd sm pk sv sz vm hpz pl sg wt bu hsh)) : X B 141 0 [some (.ref 0), some (.int (nI i)), some (.int (nI j))] [] (MW (rowE E) fr pa st rf tx ln bo ss ai fi op dp wr wm f1 f2 pm ch sd sm pk sv sz vm hpz pl sg wt bu hsh) Q := by
  have hl := rowE_len hg
  iterate 10 refine hX ?_
  have e1 : (1 : Int32) + 2 * nI i + nI j = nI (2 * i + j + 1) := by
    rw [show (1 : Int32) = nI 1 from rfl, show (2 : Int32) = nI 2 from rfl, nmul, nadd, nadd]; congr 1; omega
  rw [e1]
  refine And.intro (vp_in_nI (by omega) (by omega)) ?_
  rw [nI_clamp (by omega), rowE_side hg h8]
  refine hX ?_
  exact hq
theorem c_nodes (hX : Cl sc X) (hB : 1 ≤ B.1) {me n : Nat} {ls : pL} {st' : List Value} {E : List (List Int32)} (hg : gE E) {i j : Nat} (h8 : 2 * i + j < 8) (hck : ckW [.ref 0, .int (nI i), .int (nI j)] (.int (nI j) :: .int (nI i) :: .ref 0 :: st') (MW (rowE E) fr pa st rf tx ln bo ss ai fi op dp wr wm f1 f2 pm ch sd sm pk sv sz vm hpz pl sg wt bu hsh) 3 3 = true) (hq : X B me n ls (.int (nI (E.getD (2 * i + j) []).length) :: st') (MW (rowE E) fr pa st rf tx ln bo ss ai fi op dp wr wm f1 f2 pm ch sd sm pk sv sz vm hpz pl sg wt bu hsh) Q) : oCallV 141 11 3 3 n X B me ls (.int (nI j) :: .int (nI i) :: .ref 0 :: st') (MW (rowE E) fr pa st rf tx ln bo ss ai fi op dp wr wm f1 f2 pm ch sd sm pk sv sz vm hpz pl sg wt bu hsh) Q :=
  And.intro trivial (cPw [.ref 0, .int (nI i), .int (nI j)] (some (.int (nI (E.getD (2 * i + j) []).length))) hB hck rfl rfl (fun Q' hQ' => m_nodesOf hX hg h8 hQ') hq)
theorem m_beginOf_loop (hX : Cl sc X) {E : List (List Int32)} (hg : gE E) {i j : Nat} (h8 : 2 * i + j < 8) (hq : Q (some (.int (nI (9 + pre E (2 * i + j))))) (MW (rowE E) fr pa st rf tx ln bo ss ai fi op dp wr wm f1 f2 pm ch sd sm pk sv sz vm hpz pl sg wt bu hsh)) : ∀ (n k : Nat), k + n = 2 * i + j → X B 142 6 [some (.ref 0), some (.int (nI i)), some (.int (nI j)), some (.int (nI (9 + pre E k))), some (.int (nI k))] [] (MW (rowE E) fr pa st rf tx ln bo ss ai fi op dp wr wm f1 f2 pm ch sd sm pk sv sz vm hpz pl sg wt bu hsh) Q := by
  have hl := rowE_len hg
  have h40 := hg.1.2.1
  intro n
  have e1 : (2 : Int32) * nI i + nI j = nI (2 * i + j) := by rw [show (2 : Int32) = nI 2 from rfl, nmul, nadd]
  induction n with
  | zero =>
    intro k hk
    have : k = 2 * i + j := by omega
    subst this
    iterate 7 refine hX ?_
    rw [e1]
    refine And.intro (fun _ => ?_) (fun h => absurd (Int32.le_refl _) h)
    iterate 2 refine hX ?_
    exact hq
  | succ n ih =>
    intro k hk
    iterate 7 refine hX ?_
    rw [e1]
    refine And.intro (fun h => absurd ((nle (by omega) (by omega)).mp h) (by omega)) (fun _ => ?_)
    iterate 7 refine hX ?_
    rw [show (1 : Int32) + nI k = nI (k + 1) by rw [show (1 : Int32) = nI 1 from rfl, nadd, Nat.add_comm]]
    refine And.intro (vp_in_nI (by omega) (by omega)) ?_
    rw [nI_clamp (by omega), rowE_side hg (by omega)]
    iterate 4 refine hX ?_
    rw [nadd, show 9 + pre E k + (E.getD k []).length = 9 + pre E (k + 1) by rw [pre_succ]; omega, show nI k + 1 = nI (k + 1) from (nI_succ k).symm]
    exact ih (k + 1) (by omega)
theorem m_beginOf (hX : Cl sc X) {E : List (List Int32)} (hg : gE E) {i j : Nat} (h8 : 2 * i + j < 8) (hq : Q (some (.int (nI (9 + pre E (2 * i + j))))) (MW (rowE E) fr pa st rf tx ln bo ss ai fi op dp wr wm f1 f2 pm ch sd sm pk sv sz vm hpz pl sg wt bu hsh)) : X B 142 0 [some (.ref 0), some (.int (nI i)), some (.int (nI j)), none, none] [] (MW (rowE E) fr pa st rf tx ln bo ss ai fi op dp wr wm f1 f2 pm ch sd sm pk sv sz vm hpz pl sg wt bu hsh) Q := by
  iterate 4 refine hX ?_
  exact m_beginOf_loop hX hg h8 hq (2 * i + j) 0 (by omega)
theorem c_begin2 (hX : Cl sc X) (hB : 1 ≤ B.1) {me n : Nat} {ls : pL} {st' : List Value} {E : List (List Int32)} (hg : gE E) {i j : Nat} (h8 : 2 * i + j < 8) (hck : ckW [.ref 0, .int (nI i), .int (nI j)] (.int (nI j) :: .int (nI i) :: .ref 0 :: st') (MW (rowE E) fr pa st rf tx ln bo ss ai fi op dp wr wm f1 f2 pm ch sd sm pk sv sz vm hpz pl sg wt bu hsh) 3 5 = true) (hq : X B me n ls (.int (nI (9 + pre E (2 * i + j))) :: st') (MW (rowE E) fr pa st rf tx ln bo ss ai fi op dp wr wm f1 f2 pm ch sd sm pk sv sz vm hpz pl sg wt bu hsh) Q) : oCallV 142 11 3 5 n X B me ls (.int (nI j) :: .int (nI i) :: .ref 0 :: st') (MW (rowE E) fr pa st rf tx ln bo ss ai fi op dp wr wm f1 f2 pm ch sd sm pk sv sz vm hpz pl sg wt bu hsh) Q :=
  And.intro trivial (cPw [.ref 0, .int (nI i), .int (nI j)] (some (.int (nI (9 + pre E (2 * i + j))))) hB hck rfl rfl (fun Q' hQ' => m_beginOf hX hg h8 hQ') hq)
theorem m_drops1 (hX : Cl sc X) {r0 : List Int32} (hr : r0.length = 49) {a n : Nat} (ha : a ≤ 49) (hn : n ≤ 40) {l1 l2 : Option Value} (hq : ∀ f, f.length = 49 → (∀ q, f.getD q 0 = if a ≤ q then r0.getD (q + n) 0 else r0.getD q 0) → X B 143 83 [some (.ref 0), l1, l2, some (.int (nI n)), some (.int (nI 49))] [] (MW f fr pa st rf tx ln bo ss ai fi op dp wr wm f1 f2 pm ch sd sm pk sv sz vm hpz pl sg wt bu hsh) Q) :
    ∀ (m k : Nat), k + m = 49 → a ≤ k → ∀ (f : List Int32), f.length = 49 → (∀ q, f.getD q 0 = if a ≤ q ∧ q < k then r0.getD (q + n) 0 else r0.getD q 0) → X B 143 41 [some (.ref 0), l1, l2, some (.int (nI n)), some (.int (nI k))] [] (MW f fr pa st rf tx ln bo ss ai fi op dp wr wm f1 f2 pm ch sd sm pk sv sz vm hpz pl sg wt bu hsh) Q := by
  intro m
  induction m with
  | zero =>
    intro k hk hak f h1 h2
    have : k = 49 := by omega
    subst this
    iterate 3 refine hX ?_
    refine And.intro (fun _ => ?_) (fun h => absurd ((nle (a := 49) (by omega) (by omega)).mpr (by omega)) h)
    refine hq f h1 (fun q => ?_)
    rw [h2 q]
    by_cases h3 : a ≤ q ∧ q < 49
    · rw [if_pos h3, if_pos h3.1]
    · rw [if_neg h3]
      by_cases h4 : a ≤ q
      · rw [if_pos h4, getD_out (by omega), getD_out (by omega)]
      · rw [if_neg h4]
  | succ m ih =>
    intro k hk hak f h1 h2
    iterate 3 refine hX ?_
    refine And.intro (fun h => absurd ((nle (a := 49) (by omega) (by omega)).mp h) (by omega)) (fun _ => ?_)
    have step : ∀ v : Int32, v = r0.getD (k + n) 0 → X B 143 41 [some (.ref 0), l1, l2, some (.int (nI n)), some (.int (nI (k + 1)))] [] (MW (f.set k v) fr pa st rf tx ln bo ss ai fi op dp wr wm f1 f2 pm ch sd sm pk sv sz vm hpz pl sg wt bu hsh) Q := by
      intro v hv
      refine ih (k + 1) (by omega) (by omega) _ (by rw [List.length_set]; exact h1) (fun q => ?_)
      by_cases e : k = q
      · subst e
        rw [getD_set_eq (by omega), if_pos (by omega), hv]
      · rw [getD_set_ne e, h2 q]
        by_cases h3 : a ≤ q ∧ q < k
        · rw [if_pos h3, if_pos (by omega)]
        · rw [if_neg h3, if_neg (by omega)]
    iterate 8 refine hX ?_
    rw [nadd]
    by_cases h3 : k + n < 49
    · refine And.intro (fun h => absurd ((nle (a := 49) (by omega) (by omega)).mp h) (by omega)) (fun _ => ?_)
      iterate 6 refine hX ?_
      rw [nadd]
      refine And.intro (vp_in_nI (by omega) (by omega)) ?_
      iterate 2 refine hX ?_
      refine And.intro (vp_in_nI (by omega) (by omega)) ?_
      rw [nI_clamp (by omega), nI_clamp (by omega)]
      iterate 2 refine hX ?_
      rw [show nI k + 1 = nI (k + 1) from (nI_succ k).symm]
      refine step _ ?_
      rw [h2]
      by_cases h4 : a ≤ k + n ∧ k + n < k
      · omega
      · rw [if_neg h4]
    · refine And.intro (fun _ => ?_) (fun h => absurd ((nle (a := 49) (by omega) (by omega)).mpr (by omega)) h)
      iterate 2 refine hX ?_
      refine And.intro (vp_in_nI (by omega) (by omega)) ?_
      rw [nI_clamp (by omega)]
      iterate 2 refine hX ?_
      rw [show nI k + 1 = nI (k + 1) from (nI_succ k).symm]
      exact step _ (by rw [getD_out (by omega)])
theorem m_drops2 (hX : Cl sc X) {r0 : List Int32} (hr : r0.length = 49) {a : Nat} (ha : a ≤ 8) {l1 l2 : Option Value} {z : Int32} (hq : ∀ f, f.length = 49 → (∀ q, f.getD q 0 = if a + 1 ≤ q ∧ q < 9 then (if q < 7 then r0.getD (q + 2) 0 else 0) else r0.getD q 0) → X B 143 132 [some (.ref 0), l1, l2, some (.int z), some (.int (nI 8))] [] (MW f fr pa st rf tx ln bo ss ai fi op dp wr wm f1 f2 pm ch sd sm pk sv sz vm hpz pl sg wt bu hsh) Q) :
    ∀ (m k : Nat), k + m = 8 → a ≤ k → ∀ (f : List Int32), f.length = 49 → (∀ q, f.getD q 0 = if a + 1 ≤ q ∧ q < k + 1 then (if q < 7 then r0.getD (q + 2) 0 else 0) else r0.getD q 0) → X B 143 88 [some (.ref 0), l1, l2, some (.int z), some (.int (nI k))] [] (MW f fr pa st rf tx ln bo ss ai fi op dp wr wm f1 f2 pm ch sd sm pk sv sz vm hpz pl sg wt bu hsh) Q := by
  intro m
  induction m with
  | zero =>
    intro k hk hak f h1 h2
    have : k = 8 := by omega
    subst this
    iterate 3 refine hX ?_
    refine And.intro (fun _ => ?_) (fun h => absurd ((nle (a := 8) (by omega) (by omega)).mpr (by omega)) h)
    exact hq f h1 h2
  | succ m ih =>
    intro k hk hak f h1 h2
    iterate 3 refine hX ?_
    refine And.intro (fun h => absurd ((nle (a := 8) (by omega) (by omega)).mp h) (by omega)) (fun _ => ?_)
    have step : ∀ v : Int32, v = (if k + 1 < 7 then r0.getD (k + 1 + 2) 0 else 0) → X B 143 88 [some (.ref 0), l1, l2, some (.int z), some (.int (nI (k + 1)))] [] (MW (f.set (k + 1) v) fr pa st rf tx ln bo ss ai fi op dp wr wm f1 f2 pm ch sd sm pk sv sz vm hpz pl sg wt bu hsh) Q := by
      intro v hv
      refine ih (k + 1) (by omega) (by omega) _ (by rw [List.length_set]; exact h1) (fun q => ?_)
      by_cases e : k + 1 = q
      · subst e
        rw [getD_set_eq (by omega), if_pos (by omega), hv]
      · rw [getD_set_ne e, h2 q]
        by_cases h3 : a + 1 ≤ q ∧ q < k + 1
        · rw [if_pos h3, if_pos (show a + 1 ≤ q ∧ q < k + 1 + 1 by omega)]
        · rw [if_neg h3, if_neg (by omega)]
    have e1 : (1 : Int32) + nI k = nI (k + 1) := by rw [show (1 : Int32) = nI 1 from rfl, nadd, Nat.add_comm]
    iterate 8 refine hX ?_
    by_cases h3 : k < 6
    · refine And.intro (fun h => absurd ((nle (a := 6) (by omega) (by omega)).mp h) (by omega)) (fun _ => ?_)
      iterate 8 refine hX ?_
      rw [e1, show nI (k + 1) + 2 = nI (k + 1 + 2) from nadd _ 2]
      refine And.intro (vp_in_nI (by omega) (by omega)) ?_
      iterate 2 refine hX ?_
      refine And.intro (vp_in_nI (by omega) (by omega)) ?_
      rw [nI_clamp (by omega), nI_clamp (by omega)]
      iterate 2 refine hX ?_
      rw [show nI k + 1 = nI (k + 1) from (nI_succ k).symm]
      refine step _ ?_
      rw [if_pos (by omega), h2, if_neg (by omega)]
    · refine And.intro (fun _ => ?_) (fun h => absurd ((nle (a := 6) (by omega) (by omega)).mpr (by omega)) h)
      iterate 2 refine hX ?_
      rw [e1]
      refine And.intro (vp_in_nI (by omega) (by omega)) ?_
      rw [nI_clamp (by omega)]
      iterate 2 refine hX ?_
      rw [show nI k + 1 = nI (k + 1) from (nI_succ k).symm]
      exact step _ (by rw [if_neg (by omega)])
/-- EQUATIONS around one, by their letters -/
theorem flat_split {E : List (List Int32)} {i : Nat} (h : i < E.length / 2) : E.flatten = (E.take (2 * i)).flatten ++ (E.getD (2 * i) [] ++ (E.getD (2 * i + 1) [] ++ (E.drop (2 * i + 2)).flatten)) ∧ (E.take (2 * i)).flatten.length = pre E (2 * i) := by
  refine ⟨?_, rfl⟩
  have := (eq_split h).1
  conv => lhs; rw [this]
  rw [List.flatten_append, List.flatten_cons, List.flatten_cons]
theorem dr_get {E : List (List Int32)} {i k : Nat} (h : i < E.length / 2) : (drE E i).getD k [] = if k < 2 * i then E.getD k [] else E.getD (k + 2) [] := by
  have hl : (E.take (2 * i)).length = 2 * i := (eq_split h).2
  rw [drE]
  by_cases hk : k < 2 * i
  · rw [if_pos hk, getD_app1 (by omega), List.getD_eq_getElem?_getD, List.getElem?_take_of_lt hk, List.getD_eq_getElem?_getD]
  · rw [if_neg hk, getD_appR (by omega), hl, List.getD_eq_getElem?_getD, List.getElem?_drop, List.getD_eq_getElem?_getD]
    congr 2
    omega
theorem m_drops (hX : Cl sc X) (hB : 3 ≤ B.1) (hr3 : rf.length = 3) {hs0 : List (List (List Int32))} {E : List (List Int32)} (hg : gE E) (hP : paR hs0 pa) {e : Int32} (hq0 : hsI e (E.length / 2) = 0 → Q (some (.int (-2))) (MW (rowE E) fr pa (nI hs0.length) (bmp rf 0) tx ln bo ss ai fi op dp wr wm f1 f2 pm ch sd sm pk sv sz vm hpz pl sg wt bu hsh)) (hq1 : ∀ i pa', i < E.length / 2 → e = nI i → e.toNatClampNeg = i → paR (psh hs0 E) pa' → Q (some (.int (nI ((drE E i).length / 2)))) (MW (rowE (drE E i)) fr pa' (nI (psh hs0 E).length) rf tx ln bo ss ai fi op dp wr wm f1 f2 pm ch sd sm pk sv sz vm hpz pl sg wt bu hsh)) : X B 143 0 [some (.ref 0), some (.int e), none, none, none] [] (MW (rowE E) fr pa (nI hs0.length) rf tx ln bo ss ai fi op dp wr wm f1 f2 pm ch sd sm pk sv sz vm hpz pl sg wt bu hsh) Q := by
  have hl := rowE_len hg
  have h8 := hg.1.1
  have h40 := hg.1.2.1
  have hev := hg.1.2.2
  iterate 3 refine hX ?_
  refine c_isEq hX (by omega) hg ?_
  rcases hsI_or e (E.length / 2) with he | he
  · rw [he]
    refine hX (And.intro (fun _ => ?_) (fun h => absurd rfl h))
    iterate 2 refine hX ?_
    refine c_mbad hX (by omega) hr3 ?_
    refine hX ?_
    exact hq0 he
  rw [he]
  obtain ⟨i, rfl, hi, hic⟩ := hsI_is (by omega) he
  refine hX (And.intro (fun h => absurd h (by decide)) (fun _ => ?_))
  iterate 2 refine hX ?_
  refine And.intro trivial (cMw [.ref 0] (fun p : List Int32 => paR (psh hs0 E) p) (fun _ => none) (fun p => (MW (rowE E) fr p (nI (psh hs0 E).length) rf tx ln bo ss ai fi op dp wr wm f1 f2 pm ch sd sm pk sv sz vm hpz pl sg wt bu hsh)) (by omega) rfl rfl (fun _ => rfl) (fun _ => rfl) (fun _ => rfl) (fun Q' hQ' => m_leaves hX hg hP (fun p h => hQ' p h)) (fun p hp => ?_))
  obtain ⟨fs, fl⟩ := flat_split hi
  have fln := congrArg List.length fs
  rw [List.length_append, List.length_append, List.length_append, fl] at fln
  iterate 4 refine hX ?_
  refine c_begin2 (j := 0) hX (by omega) hg (by omega) rfl ?_
  rw [Nat.add_zero]
  iterate 5 refine hX ?_
  refine c_nodes (j := 0) hX (by omega) hg (by omega) rfl ?_
  rw [Nat.add_zero]
  iterate 4 refine hX ?_
  refine c_nodes (j := 1) hX (by omega) hg (by omega) rfl ?_
  iterate 4 refine hX ?_
  rw [nadd]
  generalize hu : E.getD (2 * i) [] = u at fs fln
  generalize hv : E.getD (2 * i + 1) [] = v at fs fln
  refine m_drops1 hX hl (a := 9 + pre E (2 * i)) (n := u.length + v.length) (by omega) (by omega) (fun f f1 f2 => ?_) (49 - (9 + pre E (2 * i))) (9 + pre E (2 * i)) (by omega) (by omega) _ hl (fun q => by rw [if_neg (by omega)])
  iterate 4 refine hX ?_
  rw [show (2 : Int32) * nI i = nI (2 * i) by rw [show (2 : Int32) = nI 2 from rfl, nmul]]
  refine m_drops2 hX f1 (a := 2 * i) (by omega) (fun f' g1 g2 => ?_) (8 - 2 * i) (2 * i) (by omega) (by omega) _ f1 (fun q => by rw [if_neg (by omega)])
  have hg2 := dr_ok hg hi
  have hz : f'.getD 0 0 = nI (E.length / 2) := by rw [g2, if_neg (by omega), f2, if_neg (by omega)]; rfl
  have hdl : (drE E i).length = E.length - 2 := by rw [drE, List.length_append, List.length_take, List.length_drop]; omega
  have hrow : f'.set 0 (nI (E.length / 2) - 1) = rowE (drE E i) := by
    refine row_ext hg2 (by rw [List.length_set]; exact g1) ?_ (fun k hk => ?_) (fun k hk => ?_)
    · rw [getD_set_eq (by omega), show nI (E.length / 2) - 1 = nI (E.length / 2 - 1) from nsub (b := 1) (by omega), hdl]
      congr 1
      omega
    · rw [getD_set_ne (by omega), g2, dr_get hi]
      by_cases hk2 : k < 2 * i
      · rw [if_neg (by omega), f2, if_neg (by omega), if_pos hk2, rowE_side hg hk]
      · rw [if_pos (by omega), if_neg hk2]
        by_cases hk3 : k + 1 < 7
        · rw [if_pos hk3, f2, if_neg (by omega), show k + 1 + 2 = (k + 2) + 1 by omega, rowE_side hg (by omega)]
        · rw [if_neg hk3, getD_out (by omega)]
          rfl
    · rw [getD_set_ne (by omega), g2, if_neg (by omega), f2, drE, List.flatten_append]
      by_cases hk2 : k < pre E (2 * i)
      · rw [if_neg (by omega), rowE_let hg, fs, getD_app1 (by omega), getD_app1 (by omega)]
      · rw [if_pos (by omega), show 9 + k + (u.length + v.length) = 9 + (k + (u.length + v.length)) by omega, rowE_let hg, fs, getD_appR (by omega), getD_appR (by omega), getD_appR (by omega), getD_appR (by omega)]
        congr 1
        omega
  iterate 5 refine hX ?_
  refine And.intro (vp_in_nI (n := 0) (by omega) (by omega)) ?_
  rw [show Int32.toNatClampNeg 0 = 0 from rfl, hz]
  iterate 3 refine hX ?_
  refine And.intro (vp_in_nI (n := 0) (by omega) (by omega)) ?_
  rw [show Int32.toNatClampNeg 0 = 0 from rfl, hrow]
  iterate 4 refine hX ?_
  refine And.intro (vp_in_nI (n := 0) (by rw [rowE_len hg2]; omega) (by rw [rowE_len hg2]; omega)) ?_
  refine hX ?_
  exact hq1 i p hi rfl hic hp
theorem m_turns1 (hX : Cl sc X) {r0 : List Int32} (hr : r0.length = 49) {a u v : Nat} (ha : a + (u + v) ≤ 49) (huv : u + v ≤ 40) {l1 : Option Value} (hq : ∀ f, f.length = 49 → (∀ q, q < u + v → f.getD q 0 = r0.getD (a + q) 0) → X B 144 73 [some (.ref 0), l1, some (.int (nI a)), some (.int (nI u)), some (.int (nI v)), some (.int (nI (u + v)))] [] (MW r0 f pa st rf tx ln bo ss ai fi op dp wr wm f1 f2 pm ch sd sm pk sv sz vm hpz pl sg wt bu hsh) Q) :
    ∀ (m k : Nat), k + m = u + v → ∀ (f : List Int32), f.length = 49 → (∀ q, q < k → f.getD q 0 = r0.getD (a + q) 0) → X B 144 42 [some (.ref 0), l1, some (.int (nI a)), some (.int (nI u)), some (.int (nI v)), some (.int (nI k))] [] (MW r0 f pa st rf tx ln bo ss ai fi op dp wr wm f1 f2 pm ch sd sm pk sv sz vm hpz pl sg wt bu hsh) Q := by
  intro m
  induction m with
  | zero =>
    intro k hk f h1 h2
    have : k = u + v := by omega
    subst this
    iterate 5 refine hX ?_
    rw [nadd]
    refine And.intro (fun _ => ?_) (fun h => absurd (Int32.le_refl _) h)
    exact hq f h1 h2
  | succ m ih =>
    intro k hk f h1 h2
    iterate 5 refine hX ?_
    rw [nadd]
    refine And.intro (fun h => absurd ((nle (by omega) (by omega)).mp h) (by omega)) (fun _ => ?_)
    iterate 9 refine hX ?_
    rw [nadd]
    refine And.intro (vp_in_nI (by omega) (by omega)) ?_
    refine hX ?_
    refine And.intro (vp_in_nI (by omega) (by omega)) ?_
    rw [nI_clamp (by omega), nI_clamp (by omega)]
    iterate 2 refine hX ?_
    rw [show nI k + 1 = nI (k + 1) from (nI_succ k).symm]
    refine ih (k + 1) (by omega) _ (by rw [List.length_set]; exact h1) (fun q hq2 => ?_)
    by_cases e : k = q
    · subst e
      rw [getD_set_eq (by omega)]
    · rw [getD_set_ne e, h2 q (by omega)]
theorem m_turns2 (hX : Cl sc X) {r0 f0 : List Int32} (hr : r0.length = 49) (hf0 : f0.length = 49) {a u v : Nat} (ha : a + (u + v) ≤ 49) (huv : u + v ≤ 40) {l1 : Option Value} (hq : ∀ f, f.length = 49 → (∀ q, f.getD q 0 = if a ≤ q ∧ q < a + (u + v) then (if q - a < v then f0.getD (u + (q - a)) 0 else f0.getD (q - a - v) 0) else r0.getD q 0) → X B 144 129 [some (.ref 0), l1, some (.int (nI a)), some (.int (nI u)), some (.int (nI v)), some (.int (nI (u + v)))] [] (MW f f0 pa st rf tx ln bo ss ai fi op dp wr wm f1 f2 pm ch sd sm pk sv sz vm hpz pl sg wt bu hsh) Q) :
    ∀ (m k : Nat), k + m = u + v → ∀ (f : List Int32), f.length = 49 → (∀ q, f.getD q 0 = if a ≤ q ∧ q < a + k then (if q - a < v then f0.getD (u + (q - a)) 0 else f0.getD (q - a - v) 0) else r0.getD q 0) → X B 144 76 [some (.ref 0), l1, some (.int (nI a)), some (.int (nI u)), some (.int (nI v)), some (.int (nI k))] [] (MW f f0 pa st rf tx ln bo ss ai fi op dp wr wm f1 f2 pm ch sd sm pk sv sz vm hpz pl sg wt bu hsh) Q := by
  intro m
  induction m with
  | zero =>
    intro k hk f h1 h2
    have : k = u + v := by omega
    subst this
    iterate 5 refine hX ?_
    rw [nadd]
    refine And.intro (fun _ => ?_) (fun h => absurd (Int32.le_refl _) h)
    exact hq f h1 h2
  | succ m ih =>
    intro k hk f h1 h2
    iterate 5 refine hX ?_
    rw [nadd]
    refine And.intro (fun h => absurd ((nle (by omega) (by omega)).mp h) (by omega)) (fun _ => ?_)
    have step : ∀ w : Int32, w = (if k < v then f0.getD (u + k) 0 else f0.getD (k - v) 0) → X B 144 76 [some (.ref 0), l1, some (.int (nI a)), some (.int (nI u)), some (.int (nI v)), some (.int (nI (k + 1)))] [] (MW (f.set (a + k) w) f0 pa st rf tx ln bo ss ai fi op dp wr wm f1 f2 pm ch sd sm pk sv sz vm hpz pl sg wt bu hsh) Q := by
      intro w hw
      refine ih (k + 1) (by omega) _ (by rw [List.length_set]; exact h1) (fun q => ?_)
      by_cases e : a + k = q
      · subst e
        rw [getD_set_eq (by omega), if_pos (by omega), show a + k - a = k by omega, hw]
      · rw [getD_set_ne e, h2 q]
        by_cases h3 : a ≤ q ∧ q < a + k
        · rw [if_pos h3, if_pos (show a ≤ q ∧ q < a + (k + 1) by omega)]
        · rw [if_neg h3, if_neg (by omega)]
    iterate 8 refine hX ?_
    by_cases h3 : k < v
    · refine And.intro (fun h => absurd ((nle (by omega) (by omega)).mp h) (by omega)) (fun _ => ?_)
      iterate 6 refine hX ?_
      rw [nadd]
      refine And.intro (vp_in_nI (by omega) (by omega)) ?_
      iterate 2 refine hX ?_
      rw [nadd]
      refine And.intro (vp_in_nI (by omega) (by omega)) ?_
      rw [nI_clamp (by omega), nI_clamp (by omega)]
      iterate 2 refine hX ?_
      rw [show nI k + 1 = nI (k + 1) from (nI_succ k).symm]
      exact step _ (by rw [if_pos h3])
    · refine And.intro (fun _ => ?_) (fun h => absurd ((nle (by omega) (by omega)).mpr (by omega)) h)
      iterate 6 refine hX ?_
      rw [nsub (by omega)]
      refine And.intro (vp_in_nI (by omega) (by omega)) ?_
      refine hX ?_
      rw [nadd]
      refine And.intro (vp_in_nI (by omega) (by omega)) ?_
      rw [nI_clamp (by omega), nI_clamp (by omega)]
      iterate 2 refine hX ?_
      rw [show nI k + 1 = nI (k + 1) from (nI_succ k).symm]
      exact step _ (by rw [if_neg h3])
theorem tu_get {E : List (List Int32)} {i k : Nat} (h : i < E.length / 2) : (tuE E i).getD k [] = if k = 2 * i then E.getD (2 * i + 1) [] else if k = 2 * i + 1 then E.getD (2 * i) [] else E.getD k [] := by
  have hl : (E.take (2 * i)).length = 2 * i := (eq_split h).2
  rw [tuE]
  by_cases hk : k < 2 * i
  · rw [if_neg (by omega), if_neg (by omega), getD_app1 (by omega), List.getD_eq_getElem?_getD, List.getElem?_take_of_lt hk, List.getD_eq_getElem?_getD]
  · rw [getD_appR (by omega), hl]
    rcases (show k = 2 * i ∨ k = 2 * i + 1 ∨ 2 * i + 2 ≤ k by omega) with e | e | e
    · rw [if_pos e, show k - 2 * i = 0 by omega]; rfl
    · rw [if_neg (by omega), if_pos e, show k - 2 * i = 0 + 1 by omega, getD_cons]; rfl
    · rw [if_neg (by omega), if_neg (by omega), show k - 2 * i = (k - (2 * i + 2)) + 1 + 1 by omega, getD_cons, getD_cons, List.getD_eq_getElem?_getD, List.getElem?_drop, List.getD_eq_getElem?_getD]
      congr 2
      omega
theorem m_turns (hX : Cl sc X) (hB : 3 ≤ B.1) (hr3 : rf.length = 3) (hfl : fr.length = 49) {hs0 : List (List (List Int32))} {E : List (List Int32)} (hg : gE E) (hP : paR hs0 pa) {e : Int32} (hq0 : hsI e (E.length / 2) = 0 → Q (some (.int (-2))) (MW (rowE E) fr pa (nI hs0.length) (bmp rf 0) tx ln bo ss ai fi op dp wr wm f1 f2 pm ch sd sm pk sv sz vm hpz pl sg wt bu hsh)) (hq1 : ∀ i pa' fr', i < E.length / 2 → e = nI i → e.toNatClampNeg = i → paR (psh hs0 E) pa' → fr'.length = 49 → Q (some (.int (nI (E.getD (2 * i + 1) []).length))) (MW (rowE (tuE E i)) fr' pa' (nI (psh hs0 E).length) rf tx ln bo ss ai fi op dp wr wm f1 f2 pm ch sd sm pk sv sz vm hpz pl sg wt bu hsh)) : X B 144 0 [some (.ref 0), some (.int e), none, none, none, none] [] (MW (rowE E) fr pa (nI hs0.length) rf tx ln bo ss ai fi op dp wr wm f1 f2 pm ch sd sm pk sv sz vm hpz pl sg wt bu hsh) Q := by
  have hl := rowE_len hg
  have h8 := hg.1.1
  have h40 := hg.1.2.1
  have hev := hg.1.2.2
  iterate 3 refine hX ?_
  refine c_isEq hX (by omega) hg ?_
  rcases hsI_or e (E.length / 2) with he | he
  · rw [he]
    refine hX (And.intro (fun _ => ?_) (fun h => absurd rfl h))
    iterate 2 refine hX ?_
    refine c_mbad hX (by omega) hr3 ?_
    refine hX ?_
    exact hq0 he
  rw [he]
  obtain ⟨i, rfl, hi, hic⟩ := hsI_is (by omega) he
  refine hX (And.intro (fun h => absurd h (by decide)) (fun _ => ?_))
  iterate 2 refine hX ?_
  refine And.intro trivial (cMw [.ref 0] (fun p : List Int32 => paR (psh hs0 E) p) (fun _ => none) (fun p => (MW (rowE E) fr p (nI (psh hs0 E).length) rf tx ln bo ss ai fi op dp wr wm f1 f2 pm ch sd sm pk sv sz vm hpz pl sg wt bu hsh)) (by omega) rfl rfl (fun _ => rfl) (fun _ => rfl) (fun _ => rfl) (fun Q' hQ' => m_leaves hX hg hP (fun p h => hQ' p h)) (fun p hp => ?_))
  obtain ⟨fs, fl⟩ := flat_split hi
  have fln := congrArg List.length fs
  rw [List.length_append, List.length_append, List.length_append, fl] at fln
  have hq2 := fun fr' => hq1 i p fr' hi rfl hic hp
  iterate 4 refine hX ?_
  refine c_begin2 (j := 0) hX (by omega) hg (by omega) rfl ?_
  rw [Nat.add_zero]
  iterate 5 refine hX ?_
  refine c_nodes (j := 0) hX (by omega) hg (by omega) rfl ?_
  rw [Nat.add_zero]
  iterate 5 refine hX ?_
  refine c_nodes (j := 1) hX (by omega) hg (by omega) rfl ?_
  iterate 3 refine hX ?_
  have tg := fun k => tu_get (k := k) hi
  have tf : (tuE E i).flatten = (E.take (2 * i)).flatten ++ (E.getD (2 * i + 1) [] ++ (E.getD (2 * i) [] ++ (E.drop (2 * i + 2)).flatten)) := by rw [tuE, List.flatten_append, List.flatten_cons, List.flatten_cons]
  generalize hu : E.getD (2 * i) [] = u at fs fln tg tf hq2
  generalize hv : E.getD (2 * i + 1) [] = v at fs fln tg tf hq2
  refine m_turns1 hX hl (a := 9 + pre E (2 * i)) (u := u.length) (v := v.length) (by omega) (by omega) (fun f0 f1 f2 => ?_) (u.length + v.length) 0 (by omega) _ hfl (fun q h => by omega)
  iterate 2 refine hX ?_
  refine m_turns2 hX hl f1 (a := 9 + pre E (2 * i)) (u := u.length) (v := v.length) (by omega) (by omega) (fun f' g1 g2 => ?_) (u.length + v.length) 0 (by omega) _ hl (fun q => by rw [if_neg (by omega)])
  have hg2 := tu_ok hg hi
  have htl : (tuE E i).length = E.length := by rw [tuE, List.length_append, List.length_cons, List.length_cons, List.length_take, List.length_drop]; omega
  have hrow : (f'.set (2 * i + 1) (nI v.length)).set (2 * i + 2) (nI u.length) = rowE (tuE E i) := by
    refine row_ext hg2 (by rw [List.length_set, List.length_set]; exact g1) ?_ (fun k hk => ?_) (fun k hk => ?_)
    · rw [getD_set_ne (by omega), getD_set_ne (by omega), g2, if_neg (by omega), htl]
      rfl
    · rw [tg k]
      by_cases e1 : k = 2 * i + 1
      · subst e1
        rw [getD_set_eq (by rw [List.length_set]; omega), if_neg (by omega), if_pos rfl]
      · rw [getD_set_ne (by omega)]
        by_cases e2 : k = 2 * i
        · subst e2
          rw [getD_set_eq (by omega), if_pos rfl]
        · rw [getD_set_ne (by omega), g2, if_neg (by omega), if_neg e2, if_neg e1, rowE_side hg hk]
    · rw [getD_set_ne (by omega), getD_set_ne (by omega), g2, tf]
      have hf := fun q => rowE_let (k := q) hg
      rw [fs] at hf
      by_cases h1 : k < pre E (2 * i)
      · rw [if_neg (by omega), hf, getD_app1 (by omega), getD_app1 (by omega)]
      · rw [getD_appR (by omega), fl]
        by_cases h2 : k - pre E (2 * i) < v.length
        · rw [if_pos (by omega), if_pos (by omega), f2 _ (by omega), show 9 + pre E (2 * i) + (u.length + (9 + k - (9 + pre E (2 * i)))) = 9 + (u.length + k) by omega, hf, getD_appR (by omega), getD_appR (by omega), getD_app1 (by omega), getD_app1 (by omega), fl]
          congr 1
          omega
        · rw [getD_appR (l := v) (by omega)]
          by_cases h3 : k - pre E (2 * i) - v.length < u.length
          · rw [if_pos (by omega), if_neg (by omega), f2 _ (by omega), show 9 + pre E (2 * i) + (9 + k - (9 + pre E (2 * i)) - v.length) = 9 + (k - v.length) by omega, hf, getD_appR (by omega), getD_app1 (by omega), getD_app1 (by omega), fl]
            congr 1
            omega
          · rw [if_neg (by omega), hf, getD_appR (by omega), getD_appR (by omega), getD_appR (by omega), getD_appR (by omega), fl]
            congr 1
            omega
  have e1 : (1 : Int32) + 2 * nI i = nI (2 * i + 1) := by
    rw [show (1 : Int32) = nI 1 from rfl, show (2 : Int32) = nI 2 from rfl, nmul, nadd]; congr 1; omega
  iterate 9 refine hX ?_
  rw [e1]
  refine And.intro (vp_in_nI (by omega) (by omega)) ?_
  rw [nI_clamp (by omega)]
  iterate 11 refine hX ?_
  rw [e1, show nI (2 * i + 1) + 1 = nI (2 * i + 2) from (nI_succ _).symm]
  refine And.intro (vp_in_nI (by rw [List.length_set]; omega) (by rw [List.length_set]; omega)) ?_
  rw [nI_clamp (by omega), hrow]
  iterate 2 refine hX ?_
  exact hq2 f0 f1
end MF
