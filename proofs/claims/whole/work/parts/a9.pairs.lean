/-! The model: PAIRS. -/
def plR (Z : List (Nat × Nat)) (f1 f2 : List Int32) : Prop := (f1.length = 24 ∧ f2.length = 24 ∧ Z.length ≤ 24) ∧ ∀ i, i < Z.length → f1.getD i 0 = nI (9 + (Z.getD i (0, 0)).1) ∧ f2.getD i 0 = nI (9 + (Z.getD i (0, 0)).2)
theorem ins_get {α : Type} {A R : List α} {z d : α} (q : Nat) : (A ++ z :: R).getD q d = if q < A.length then (A ++ R).getD q d else if q = A.length then z else (A ++ R).getD (q - 1) d := by
  by_cases h1 : q < A.length
  · rw [if_pos h1, getD_app1 h1, getD_app1 h1]
  · rw [if_neg h1, getD_appR (by omega)]
    by_cases h2 : q = A.length
    · rw [if_pos h2, show q - A.length = 0 by omega]; rfl
    · rw [if_neg h2, getD_appR (by omega), show q - A.length = (q - 1 - A.length) + 1 by omega, getD_cons]
theorem nI_step (m a : Nat) : nI (m + 1) + (nI a - 1) = nI (m + a) := by
  rw [nI_succ, Int32.add_assoc, Int32.add_comm 1, Int32.sub_add_cancel, nadd]
section MI
variable {sc : List Int32} {X : pX} {B : pB} {Q : pQ} {nw fr pa rf tx bo ss op wr f1 f2 ch sd pk sv sz hpz pl sg bu : List Int32} {st ln ai fi dp wm pm sm vm wt : Int32} {hsh : Int64}
theorem m_behind_loop (hX : Cl sc X) (hB : 3 ≤ B.1) (hn : nw.length = 49) {a0 : Int32} : ∀ (y xr : List Int32) (m p : Nat), nw.drop p = y ++ xr → okF y m = true → (∀ c ∈ y, ¬ kdI c = -1) → m ≤ 100 → Q (some (.int (nI (p + y.length)))) (MW nw fr pa st rf tx ln bo ss ai fi op dp wr wm f1 f2 pm ch sd sm pk sv sz vm hpz pl sg wt bu hsh) → X B 155 4 [some (.ref 0), some (.int a0), some (.int (nI m)), some (.int (nI p))] [] (MW nw fr pa st rf tx ln bo ss ai fi op dp wr wm f1 f2 pm ch sd sm pk sv sz vm hpz pl sg wt bu hsh) Q := by
  intro y
  induction y with
  | nil =>
    intro xr m p h1 h2 h3 h4 hq
    rw [okF_nil h2]
    iterate 2 refine hX ?_
    refine And.intro (fun _ => ?_) (fun h => absurd (by decide) h)
    iterate 2 refine hX ?_
    exact hq
  | cons c y ih =>
    intro xr m p h1 h2 h3 h4 hq
    obtain ⟨k1, k2, k3⟩ := drop_head h1
    obtain ⟨m, rfl, hm2⟩ := okF_cons h2
    have hs := okF_sum y _ hm2
    have hl : y.length ≤ 49 := by
      have := congrArg List.length k3
      rw [List.length_drop, List.length_append] at this
      omega
    iterate 2 refine hX ?_
    refine And.intro (fun h => absurd ((nle (b := 0) (by omega) (by omega)).mp h) (by omega)) (fun _ => ?_)
    iterate 5 refine hX ?_
    refine And.intro (vp_in_nI (by omega) (by omega)) ?_
    rw [nI_clamp (by omega), k2]
    refine hX (cP [] [.int c] [] (some (.int (prI c))) [.int (prI c), .int (nI (m + 1))] (by omega) rfl rfl rfl rfl (fun Q' hQ' => m_partsOf hX (by show 2 ≤ B.1 - 1; omega) hQ') ?_)
    rw [prI_let (h3 c List.mem_cons_self)]
    iterate 6 refine hX ?_
    rw [nI_step, show nI p + 1 = nI (p + 1) from (nI_succ p).symm]
    exact ih xr (m + arN c) (p + 1) k3 hm2 (fun d hd => h3 d (List.mem_cons_of_mem _ hd)) (by omega) (by rw [List.length_cons] at hq; rw [show p + 1 + y.length = p + (y.length + 1) by omega]; exact hq)
theorem m_behind (hX : Cl sc X) (hB : 3 ≤ B.1) (hn : nw.length = 49) {x xr : List Int32} {a : Nat} (h1 : nw.drop a = x ++ xr) (h2 : okF x 1 = true) (h3 : ∀ c ∈ x, ¬ kdI c = -1) (hq : Q (some (.int (nI (a + x.length)))) (MW nw fr pa st rf tx ln bo ss ai fi op dp wr wm f1 f2 pm ch sd sm pk sv sz vm hpz pl sg wt bu hsh)) : X B 155 0 [some (.ref 0), some (.int (nI a)), none, none] [] (MW nw fr pa st rf tx ln bo ss ai fi op dp wr wm f1 f2 pm ch sd sm pk sv sz vm hpz pl sg wt bu hsh) Q := by
  iterate 4 refine hX ?_
  exact m_behind_loop hX hB hn x xr 1 a h1 h2 h3 (by omega) hq
theorem c_behind (hX : Cl sc X) (hB : 4 ≤ B.1) {me n : Nat} {ls : pL} {st' : List Value} (hn : nw.length = 49) {x xr : List Int32} {a : Nat} (h1 : nw.drop a = x ++ xr) (h2 : okF x 1 = true) (h3 : ∀ c ∈ x, ¬ kdI c = -1) (hck : ckW [.ref 0, .int (nI a)] (.int (nI a) :: .ref 0 :: st') (MW nw fr pa st rf tx ln bo ss ai fi op dp wr wm f1 f2 pm ch sd sm pk sv sz vm hpz pl sg wt bu hsh) 2 4 = true) (hq : X B me n ls (.int (nI (a + x.length)) :: st') (MW nw fr pa st rf tx ln bo ss ai fi op dp wr wm f1 f2 pm ch sd sm pk sv sz vm hpz pl sg wt bu hsh) Q) : oCallV 155 11 2 4 n X B me ls (.int (nI a) :: .ref 0 :: st') (MW nw fr pa st rf tx ln bo ss ai fi op dp wr wm f1 f2 pm ch sd sm pk sv sz vm hpz pl sg wt bu hsh) Q :=
  And.intro trivial (cPw [.ref 0, .int (nI a)] (some (.int (nI (a + x.length)))) (by omega) hck rfl rfl (fun Q' hQ' => m_behind hX (by show 3 ≤ B.1 - 1; omega) hn h1 h2 h3 hQ') hq)
theorem m_comesIn_loop (hX : Cl sc X) {i m : Nat} (hm : m < 24) (hf1 : f1.length = 24) (hf2 : f2.length = 24) {v1 v2 : Int32} (hq : ∀ g1 g2, g1.length = 24 → g2.length = 24 → (∀ q, g1.getD q 0 = if q = i then v1 else if i < q ∧ q ≤ m then f1.getD (q - 1) 0 else f1.getD q 0) → (∀ q, g2.getD q 0 = if q = i then v2 else if i < q ∧ q ≤ m then f2.getD (q - 1) 0 else f2.getD q 0) → Q none (MW nw fr pa st rf tx ln bo ss ai fi op dp wr wm g1 g2 (nI (m + 1)) ch sd sm pk sv sz vm hpz pl sg wt bu hsh)) :
    ∀ (n k : Nat), k = i + n → k ≤ m → ∀ (g1 g2 : List Int32), g1.length = 24 → g2.length = 24 → (∀ q, g1.getD q 0 = if k < q ∧ q ≤ m then f1.getD (q - 1) 0 else f1.getD q 0) → (∀ q, g2.getD q 0 = if k < q ∧ q ≤ m then f2.getD (q - 1) 0 else f2.getD q 0) → X B 156 6 [some (.ref 0), some (.int (nI i)), some (.int v1), some (.int v2), some (.int (nI k))] [] (MW nw fr pa st rf tx ln bo ss ai fi op dp wr wm g1 g2 (nI m) ch sd sm pk sv sz vm hpz pl sg wt bu hsh) Q := by
  intro n
  induction n with
  | zero =>
    intro k hk hkm g1 g2 l1 l2 h1 h2
    have : k = i := by omega
    subst this
    iterate 3 refine hX ?_
    refine And.intro (fun _ => ?_) (fun h => absurd (Int32.le_refl _) h)
    iterate 5 refine hX ?_
    refine And.intro (vp_in_nI (by omega) (by omega)) ?_
    rw [nI_clamp (by omega)]
    iterate 5 refine hX ?_
    refine And.intro (vp_in_nI (by omega) (by omega)) ?_
    rw [nI_clamp (by omega)]
    iterate 7 refine hX ?_
    rw [show nI m + 1 = nI (m + 1) from (nI_succ m).symm]
    refine hq _ _ (by rw [List.length_set]; exact l1) (by rw [List.length_set]; exact l2) (fun q => ?_) (fun q => ?_)
    · by_cases e : k = q
      · subst e; rw [getD_set_eq (by omega), if_pos rfl]
      · rw [getD_set_ne e, h1 q, if_neg (show ¬ q = k from fun z => e z.symm)]
    · by_cases e : k = q
      · subst e; rw [getD_set_eq (by omega), if_pos rfl]
      · rw [getD_set_ne e, h2 q, if_neg (show ¬ q = k from fun z => e z.symm)]
  | succ n ih =>
    intro k hk hkm g1 g2 l1 l2 h1 h2
    iterate 3 refine hX ?_
    refine And.intro (fun h => absurd ((nle (by omega) (by omega)).mp h) (by omega)) (fun _ => ?_)
    have e1 : nI k - 1 = nI (k - 1) := nsub (b := 1) (by omega)
    iterate 9 refine hX ?_
    rw [e1]
    refine And.intro (vp_in_nI (by omega) (by omega)) ?_
    refine hX ?_
    refine And.intro (vp_in_nI (by omega) (by omega)) ?_
    rw [nI_clamp (by omega), nI_clamp (by omega)]
    iterate 9 refine hX ?_
    rw [e1]
    refine And.intro (vp_in_nI (by omega) (by omega)) ?_
    refine hX ?_
    refine And.intro (vp_in_nI (by omega) (by omega)) ?_
    rw [nI_clamp (by omega), nI_clamp (by omega)]
    iterate 2 refine hX ?_
    rw [show nI k + -1 = nI (k - 1) by rw [← Int32.sub_eq_add_neg]; exact e1]
    refine ih (k - 1) (by omega) (by omega) _ _ (by rw [List.length_set]; exact l1) (by rw [List.length_set]; exact l2) (fun q => ?_) (fun q => ?_)
    · by_cases e : k = q
      · subst e
        rw [getD_set_eq (by omega), h1, if_neg (by omega), if_pos (by omega)]
      · rw [getD_set_ne e, h1 q]
        by_cases h3 : k < q ∧ q ≤ m
        · rw [if_pos h3, if_pos (by omega)]
        · rw [if_neg h3, if_neg (by omega)]
    · by_cases e : k = q
      · subst e
        rw [getD_set_eq (by omega), h2, if_neg (by omega), if_pos (by omega)]
      · rw [getD_set_ne e, h2 q]
        by_cases h3 : k < q ∧ q ≤ m
        · rw [if_pos h3, if_pos (by omega)]
        · rw [if_neg h3, if_neg (by omega)]
theorem m_comesIn (hX : Cl sc X) {A R : List (Nat × Nat)} (hP : plR (A ++ R) f1 f2) (hm : (A ++ R).length < 24) {p q : Nat} (hq : ∀ g1 g2, plR (A ++ (p, q) :: R) g1 g2 → Q none (MW nw fr pa st rf tx ln bo ss ai fi op dp wr wm g1 g2 (nI (A ++ (p, q) :: R).length) ch sd sm pk sv sz vm hpz pl sg wt bu hsh)) : X B 156 0 [some (.ref 0), some (.int (nI A.length)), some (.int (nI (9 + p))), some (.int (nI (9 + q))), none] [] (MW nw fr pa st rf tx ln bo ss ai fi op dp wr wm f1 f2 (nI (A ++ R).length) ch sd sm pk sv sz vm hpz pl sg wt bu hsh) Q := by
  obtain ⟨⟨l1, l2, l3⟩, l4⟩ := hP
  have hl : (A ++ (p, q) :: R).length = (A ++ R).length + 1 := by rw [List.length_append, List.length_append, List.length_cons]; omega
  have hAl : A.length ≤ (A ++ R).length := by rw [List.length_append]; omega
  iterate 3 refine hX ?_
  refine m_comesIn_loop hX (i := A.length) hm l1 l2 (fun g1 g2 a1 a2 a3 a4 => ?_) ((A ++ R).length - A.length) _ (by omega) (Nat.le_refl _) f1 f2 l1 l2 (fun q => by rw [if_neg (by omega)]) (fun q => by rw [if_neg (by omega)])
  rw [← hl]
  refine hq g1 g2 ⟨⟨a1, a2, by omega⟩, fun i hi => ?_⟩
  rw [ins_get, a3, a4]
  by_cases h1 : i < A.length
  · rw [if_pos h1, if_neg (by omega), if_neg (by omega), if_neg (by omega), if_neg (by omega)]
    exact l4 i (by omega)
  · rw [if_neg h1]
    by_cases h2 : i = A.length
    · rw [if_pos h2, if_pos h2, if_pos h2]
      exact ⟨rfl, rfl⟩
    · rw [if_neg h2, if_neg h2, if_neg h2, if_pos (by omega), if_pos (by omega)]
      exact l4 (i - 1) (by omega)
theorem m_goesOut_loop (hX : Cl sc X) {i m : Nat} (hm : m < 24) (hq : ∀ g1 g2, g1.length = 24 → g2.length = 24 → (∀ q, g1.getD q 0 = if i ≤ q ∧ q < m then f1.getD (q + 1) 0 else f1.getD q 0) → (∀ q, g2.getD q 0 = if i ≤ q ∧ q < m then f2.getD (q + 1) 0 else f2.getD q 0) → Q none (MW nw fr pa st rf tx ln bo ss ai fi op dp wr wm g1 g2 (nI m) ch sd sm pk sv sz vm hpz pl sg wt bu hsh)) :
    ∀ (n k : Nat), k + n = m → i ≤ k → ∀ (g1 g2 : List Int32), g1.length = 24 → g2.length = 24 → (∀ q, g1.getD q 0 = if i ≤ q ∧ q < k then f1.getD (q + 1) 0 else f1.getD q 0) → (∀ q, g2.getD q 0 = if i ≤ q ∧ q < k then f2.getD (q + 1) 0 else f2.getD q 0) → X B 157 12 [some (.ref 0), some (.int (nI i)), some (.int (nI k))] [] (MW nw fr pa st rf tx ln bo ss ai fi op dp wr wm g1 g2 (nI m) ch sd sm pk sv sz vm hpz pl sg wt bu hsh) Q := by
  intro n
  induction n with
  | zero =>
    intro k hk hik g1 g2 l1 l2 h1 h2
    have : k = m := by omega
    subst this
    iterate 4 refine hX ?_
    refine And.intro (fun _ => ?_) (fun h => absurd (Int32.le_refl _) h)
    refine hX ?_
    exact hq g1 g2 l1 l2 h1 h2
  | succ n ih =>
    intro k hk hik g1 g2 l1 l2 h1 h2
    iterate 4 refine hX ?_
    refine And.intro (fun h => absurd ((nle (by omega) (by omega)).mp h) (by omega)) (fun _ => ?_)
    have e1 : nI k + 1 = nI (k + 1) := (nI_succ k).symm
    iterate 9 refine hX ?_
    rw [e1]
    refine And.intro (vp_in_nI (by omega) (by omega)) ?_
    refine hX ?_
    refine And.intro (vp_in_nI (by omega) (by omega)) ?_
    rw [nI_clamp (by omega), nI_clamp (by omega)]
    iterate 9 refine hX ?_
    rw [e1]
    refine And.intro (vp_in_nI (by omega) (by omega)) ?_
    refine hX ?_
    refine And.intro (vp_in_nI (by omega) (by omega)) ?_
    rw [nI_clamp (by omega), nI_clamp (by omega)]
    iterate 2 refine hX ?_
    rw [e1]
    refine ih (k + 1) (by omega) (by omega) _ _ (by rw [List.length_set]; exact l1) (by rw [List.length_set]; exact l2) (fun q => ?_) (fun q => ?_)
    · by_cases e : k = q
      · subst e
        rw [getD_set_eq (by omega), h1, if_neg (by omega), if_pos (by omega)]
      · rw [getD_set_ne e, h1 q]
        by_cases h3 : i ≤ q ∧ q < k
        · rw [if_pos h3, if_pos (by omega)]
        · rw [if_neg h3, if_neg (by omega)]
    · by_cases e : k = q
      · subst e
        rw [getD_set_eq (by omega), h2, if_neg (by omega), if_pos (by omega)]
      · rw [getD_set_ne e, h2 q]
        by_cases h3 : i ≤ q ∧ q < k
        · rw [if_pos h3, if_pos (by omega)]
        · rw [if_neg h3, if_neg (by omega)]
theorem m_goesOut (hX : Cl sc X) {A R : List (Nat × Nat)} {z : Nat × Nat} (hP : plR (A ++ z :: R) f1 f2) (hq : ∀ g1 g2, plR (A ++ R) g1 g2 → Q none (MW nw fr pa st rf tx ln bo ss ai fi op dp wr wm g1 g2 (nI (A ++ R).length) ch sd sm pk sv sz vm hpz pl sg wt bu hsh)) : X B 157 0 [some (.ref 0), some (.int (nI A.length)), none] [] (MW nw fr pa st rf tx ln bo ss ai fi op dp wr wm f1 f2 (nI (A ++ z :: R).length) ch sd sm pk sv sz vm hpz pl sg wt bu hsh) Q := by
  obtain ⟨⟨l1, l2, l3⟩, l4⟩ := hP
  have hl : (A ++ z :: R).length = (A ++ R).length + 1 := by rw [List.length_append, List.length_append, List.length_cons]; omega
  have hAl : A.length ≤ (A ++ R).length := by rw [List.length_append]; omega
  iterate 6 refine hX ?_
  rw [hl, nI_pred]
  iterate 2 refine hX ?_
  refine m_goesOut_loop hX (f1 := f1) (f2 := f2) (i := A.length) (m := (A ++ R).length) (by omega) (fun g1 g2 a1 a2 a3 a4 => ?_) ((A ++ R).length - A.length) A.length (by omega) (Nat.le_refl _) f1 f2 l1 l2 (fun q => by rw [if_neg (by omega)]) (fun q => by rw [if_neg (by omega)])
  refine hq g1 g2 ⟨⟨a1, a2, by omega⟩, fun i hi => ?_⟩
  rw [a3, a4]
  by_cases h1 : i < A.length
  · have := l4 i (by omega)
    rw [ins_get, if_pos h1] at this
    rw [if_neg (by omega), if_neg (by omega)]
    exact this
  · have := l4 (i + 1) (by omega)
    rw [ins_get, if_neg (by omega), if_neg (by omega), Nat.add_sub_cancel] at this
    rw [if_pos (by omega), if_pos (by omega)]
    exact this
theorem pl_at {A R : List (Nat × Nat)} {z : Nat × Nat} (hP : plR (A ++ z :: R) f1 f2) : f1.getD A.length 0 = nI (9 + z.1) ∧ f2.getD A.length 0 = nI (9 + z.2) := by
  have := hP.2 A.length (by rw [List.length_append, List.length_cons]; omega)
  rw [ins_get, if_neg (by omega), if_pos rfl] at this
  exact this
theorem row_at {E : List (List Int32)} (hg : gE E) {p : Nat} {x xr : List Int32} (h : E.flatten.drop p = x ++ xr) (hx : 0 < x.length) : (rowE E).drop (9 + p) = x ++ (xr ++ List.replicate (40 - E.flatten.length) 0) ∧ p + x.length ≤ 40 ∧ ∀ c ∈ x, ¬ kdI c = -1 := by
  have hl := congrArg List.length h
  rw [List.length_drop, List.length_append] at hl
  have h40 := hg.1.2.1
  refine ⟨by rw [row_drop hg (by omega), h, List.append_assoc], by omega, fun c hc => hg.2.2 c (List.mem_of_mem_drop (i := p) (by rw [h]; exact List.mem_append_left _ hc))⟩
theorem m_takesApart (hX : Cl sc X) (hB : 5 ≤ B.1) {E : List (List Int32)} (hg : gE E) {A R : List (Nat × Nat)} {z : Nat × Nat} (hz : pOK E.flatten z) (hs : E.flatten.getD z.1 0 = E.flatten.getD z.2 0) (hP : plR (A ++ z :: R) f1 f2) (hm : (A ++ z :: R).length ≤ 20) (hq : ∀ g1 g2, plR (A ++ (kids E.flatten z ++ R)) g1 g2 → Q none (MW (rowE E) fr pa st rf tx ln bo ss ai fi op dp wr wm g1 g2 (nI (A ++ (kids E.flatten z ++ R)).length) ch sd sm pk sv sz vm hpz pl sg wt bu hsh)) : X B 158 0 [some (.ref 0), some (.int (nI A.length)), none, none, none] [] (MW (rowE E) fr pa st rf tx ln bo ss ai fi op dp wr wm f1 f2 (nI (A ++ z :: R).length) ch sd sm pk sv sz vm hpz pl sg wt bu hsh) Q := by
  have hl := rowE_len hg
  have h40 := hg.1.2.1
  obtain ⟨p, q⟩ := z
  obtain ⟨x, xr, y, yr, d1, o1, d2, o2, ho⟩ := hz
  obtain ⟨at1, at2⟩ := pl_at hP
  dsimp only at d1 d2 ho hs at1 at2
  have hAl : (A ++ (p, q) :: R).length = A.length + R.length + 1 := by rw [List.length_append, List.length_cons]; omega
  have hAR : (A ++ R).length = A.length + R.length := List.length_append
  obtain ⟨l1, l2, -⟩ := hP.1
  obtain ⟨rx1, rx2, rx3⟩ := row_at hg d1 (okF_pos o1 (by omega))
  obtain ⟨ry1, ry2, ry3⟩ := row_at hg d2 (okF_pos o2 (by omega))
  cases x with
  | nil => cases o1
  | cons c x =>
  cases y with
  | nil => cases o2
  | cons d y =>
  obtain ⟨k1, k2, k3⟩ := drop_head d1
  obtain ⟨k4, k5, k6⟩ := drop_head d2
  rw [k2, k5] at hs
  subst hs
  have o1' : okF x (0 + arN c) = true := o1
  have o2' : okF y (0 + arN c) = true := o2
  rw [Nat.zero_add] at o1' o2'
  rw [List.length_cons] at rx2 ry2
  iterate 4 refine hX ?_
  refine And.intro (vp_in_nI (by omega) (by omega)) ?_
  rw [nI_clamp (by omega), at1]
  iterate 5 refine hX ?_
  refine And.intro (vp_in_nI (by omega) (by omega)) ?_
  rw [nI_clamp (by omega), at2]
  iterate 5 refine hX ?_
  refine And.intro (vp_in_nI (by omega) (by omega)) ?_
  rw [nI_clamp (by omega), rowE_let hg, k2]
  refine hX (cP [] [.int c] [] (some (.int (prI c))) [.int (prI c)] (by omega) rfl rfl rfl rfl (fun Q' hQ' => m_partsOf hX (by show 2 ≤ B.1 - 1; omega) hQ') ?_)
  rw [prI_let (rx3 c List.mem_cons_self)]
  iterate 4 refine hX ?_
  refine And.intro trivial (cMw [.ref 0, .int (nI A.length)] (fun u : List Int32 × List Int32 => plR (A ++ R) u.1 u.2) (fun _ => none) (fun u => (MW (rowE E) fr pa st rf tx ln bo ss ai fi op dp wr wm u.1 u.2 (nI (A ++ R).length) ch sd sm pk sv sz vm hpz pl sg wt bu hsh)) (by omega) rfl rfl (fun _ => rfl) (fun _ => rfl) (fun _ => rfl) (fun Q' hQ' => m_goesOut hX hP (fun a b h => hQ' (a, b) h)) (fun u hu => ?_))
  obtain ⟨g1, g2⟩ := u
  dsimp only at hu ⊢
  have e9 : ∀ k, nI (9 + k) + 1 = nI (9 + (k + 1)) := fun k => (nI_succ (9 + k)).symm
  have last : ∀ (R' : List (Nat × Nat)) (g1 g2 : List Int32), plR (A ++ R') g1 g2 → (A ++ R').length ≤ 20 → (1 ≤ arN c → kids E.flatten (p, q) ++ R = (p + 1, q + 1) :: R') → (arN c = 0 → kids E.flatten (p, q) ++ R = R') → X B 158 55 [some (.ref 0), some (.int (nI A.length)), some (.int (nI (9 + p))), some (.int (nI (9 + q))), some (.int (nI (arN c)))] [] (MW (rowE E) fr pa st rf tx ln bo ss ai fi op dp wr wm g1 g2 (nI (A ++ R').length) ch sd sm pk sv sz vm hpz pl sg wt bu hsh) Q := by
    intro R' g1 g2 hP' hm' ha1 ha0
    have har := arN_le c
    iterate 2 refine hX ?_
    by_cases h0 : arN c = 0
    · rw [h0]
      refine And.intro (fun _ => ?_) (fun h => absurd (by decide) h)
      refine hX ?_
      rw [ha0 h0] at hq
      exact hq g1 g2 hP'
    · refine And.intro (fun h => absurd ((nle (b := 0) (by omega) (by omega)).mp h) (by omega)) (fun _ => ?_)
      rw [ha1 (by omega)] at hq
      iterate 9 refine hX ?_
      rw [e9, e9]
      refine And.intro trivial (cMw [.ref 0, .int (nI A.length), .int (nI (9 + (p + 1))), .int (nI (9 + (q + 1)))] (fun u : List Int32 × List Int32 => plR (A ++ (p + 1, q + 1) :: R') u.1 u.2) (fun _ => none) (fun u => (MW (rowE E) fr pa st rf tx ln bo ss ai fi op dp wr wm u.1 u.2 (nI (A ++ (p + 1, q + 1) :: R').length) ch sd sm pk sv sz vm hpz pl sg wt bu hsh)) (by omega) rfl rfl (fun _ => rfl) (fun _ => rfl) (fun _ => rfl) (fun Q' hQ' => m_comesIn hX hP' (by omega) (fun a b h => hQ' (a, b) h)) (fun u hu => ?_))
      refine hX ?_
      exact hq u.1 u.2 hu
  iterate 3 refine hX ?_
  rcases (show arN c = 0 ∨ arN c = 1 ∨ arN c = 2 by have := arN_le c; omega) with ha | ha | ha
  · rw [ha]
    refine And.intro (fun h => absurd h (by decide)) (fun _ => ?_)
    have := last R g1 g2 hu (by omega) (fun h => by omega) (fun _ => by rw [kids]; dsimp only; rw [k2, if_pos ha]; rfl)
    rw [ha] at this
    exact this
  · rw [ha]
    refine And.intro (fun h => absurd h (by decide)) (fun _ => ?_)
    have := last R g1 g2 hu (by omega) (fun _ => by rw [kids]; dsimp only; rw [k2, if_neg (by omega), if_pos ha]; rfl) (fun h => by omega)
    rw [ha] at this
    exact this
  · rw [ha] at o1' o2'
    have tx2 : tlen (E.flatten.drop (p + 1)) 1 = tlen x 1 := by rw [k3]; exact tlen_app (b := 1) o1'
    have ty2 : tlen (E.flatten.drop (q + 1)) 1 = tlen y 1 := by rw [k6]; exact tlen_app (b := 1) o2'
    have hk : kids E.flatten (p, q) = [(p + 1, q + 1), (p + 1 + tlen x 1, q + 1 + tlen y 1)] := by rw [kids]; dsimp only; rw [k2, if_neg (by omega), if_neg (by omega), tx2, ty2]
    have x1 := okF_take x 1 1 o1'
    have y1 := okF_take y 1 1 o2'
    have lx := tlen_le x 1
    have ly := tlen_le y 1
    have ex : x = x.take (tlen x 1) ++ x.drop (tlen x 1) := (List.take_append_drop _ _).symm
    have ey : y = y.take (tlen y 1) ++ y.drop (tlen y 1) := (List.take_append_drop _ _).symm
    have b1 : E.flatten.drop (p + 1) = x.take (tlen x 1) ++ (x.drop (tlen x 1) ++ xr) := by rw [k3, ← List.append_assoc, ← ex]
    have b2 : E.flatten.drop (q + 1) = y.take (tlen y 1) ++ (y.drop (tlen y 1) ++ yr) := by rw [k6, ← List.append_assoc, ← ey]
    obtain ⟨c1, c2, c3⟩ := row_at hg b1 (okF_pos x1 (by omega))
    obtain ⟨c4, c5, c6⟩ := row_at hg b2 (okF_pos y1 (by omega))
    have lx2 : (x.take (tlen x 1)).length = tlen x 1 := by rw [List.length_take]; omega
    have ly2 : (y.take (tlen y 1)).length = tlen y 1 := by rw [List.length_take]; omega
    rw [ha]
    refine And.intro (fun _ => ?_) (fun h => absurd rfl h)
    iterate 7 refine hX ?_
    rw [e9]
    refine c_behind hX (by omega) hl c1 x1 c3 rfl ?_
    iterate 5 refine hX ?_
    rw [e9]
    refine c_behind hX (by omega) hl c4 y1 c6 rfl ?_
    rw [lx2, ly2, Nat.add_assoc 9 (p + 1), Nat.add_assoc 9 (q + 1)]
    refine hX ?_
    refine And.intro trivial (cMw [.ref 0, .int (nI A.length), .int (nI (9 + (p + 1 + tlen x 1))), .int (nI (9 + (q + 1 + tlen y 1)))] (fun u : List Int32 × List Int32 => plR (A ++ (p + 1 + tlen x 1, q + 1 + tlen y 1) :: R) u.1 u.2) (fun _ => none) (fun u => (MW (rowE E) fr pa st rf tx ln bo ss ai fi op dp wr wm u.1 u.2 (nI (A ++ (p + 1 + tlen x 1, q + 1 + tlen y 1) :: R).length) ch sd sm pk sv sz vm hpz pl sg wt bu hsh)) (by omega) rfl rfl (fun _ => rfl) (fun _ => rfl) (fun _ => rfl) (fun Q' hQ' => m_comesIn hX hu (by omega) (fun a b h => hQ' (a, b) h)) (fun u hu2 => ?_))
    have := last ((p + 1 + tlen x 1, q + 1 + tlen y 1) :: R) u.1 u.2 hu2 (by rw [List.length_append, List.length_cons]; omega) (fun _ => by rw [hk]; rfl) (fun h => by omega)
    rw [ha] at this
    exact this
theorem m_lays2 (hX : Cl sc X) (hB : 6 ≤ B.1) {E : List (List Int32)} (hg : gE E) {R : List (Nat × Nat)} (hq : ∀ g1 g2, plR R g1 g2 → R.length ≤ 20 → Q none (MW (rowE E) fr pa st rf tx ln bo ss ai fi op dp wr wm g1 g2 (nI R.length) ch sd sm pk sv sz vm hpz pl sg wt bu hsh)) :
    ∀ (m : Nat) (D T : List (Nat × Nat)) (g1 g2 : List Int32), (T.map (entL E.flatten)).sum ≤ m → tkI E.flatten R D T → plR (D ++ T) g1 g2 → X B 159 45 [some (.ref 0), some (.int (nI D.length))] [] (MW (rowE E) fr pa st rf tx ln bo ss ai fi op dp wr wm g1 g2 (nI (D ++ T).length) ch sd sm pk sv sz vm hpz pl sg wt bu hsh) Q := by
  have hl := rowE_len hg
  have h40 := hg.1.2.1
  intro m
  induction m with
  | zero =>
    intro D T g1 g2 hm hI hP
    have h2 := tkI_len T hI.2.1
    have hT : T = [] := List.eq_nil_of_length_eq_zero (by omega)
    subst hT
    obtain ⟨i1, i2, i3⟩ := hI
    rw [List.flatMap_nil, List.append_nil] at i1
    subst i1
    rw [List.append_nil] at hP ⊢
    iterate 4 refine hX ?_
    refine And.intro (fun _ => ?_) (fun h => absurd (Int32.le_refl _) h)
    refine hX ?_
    exact hq g1 g2 hP (by omega)
  | succ m ih =>
    intro D T g1 g2 hm hI hP
    have h2 := tkI_len T hI.2.1
    cases T with
    | nil =>
      obtain ⟨i1, i2, i3⟩ := hI
      rw [List.flatMap_nil, List.append_nil] at i1
      subst i1
      rw [List.append_nil] at hP ⊢
      iterate 4 refine hX ?_
      refine And.intro (fun _ => ?_) (fun h => absurd (Int32.le_refl _) h)
      refine hX ?_
      exact hq g1 g2 hP (by omega)
    | cons z T =>
      have hz := hI.2.1 z List.mem_cons_self
      obtain ⟨z1, z2⟩ := pOK_lt hz
      have hDT : (D ++ z :: T).length = D.length + T.length + 1 := by rw [List.length_append, List.length_cons]; omega
      have h20 : (D ++ z :: T).length ≤ 20 := by have := hI.2.2; rw [List.length_cons] at h2; omega
      obtain ⟨at1, at2⟩ := pl_at hP
      obtain ⟨l1, l2, -⟩ := hP.1
      iterate 4 refine hX ?_
      refine And.intro (fun h => absurd ((nle (by omega) (by omega)).mp h) (by omega)) (fun _ => ?_)
      have keep : ¬ (E.flatten.getD z.1 0 = E.flatten.getD z.2 0 ∧ fxI (E.flatten.getD z.1 0) = 0) → X B 159 103 [some (.ref 0), some (.int (nI D.length))] [] (MW (rowE E) fr pa st rf tx ln bo ss ai fi op dp wr wm g1 g2 (nI (D ++ z :: T).length) ch sd sm pk sv sz vm hpz pl sg wt bu hsh) Q := by
        intro hn
        iterate 2 refine hX ?_
        rw [show nI D.length + 1 = nI (D.length + 1) from (nI_succ _).symm]
        have := pOK_ent hz
        rw [List.map_cons, List.sum_cons] at hm
        have := ih (D ++ [z]) T g1 g2 (by omega) (tk_keep hI hn) (by rw [List.append_assoc]; exact hP)
        rw [List.append_assoc, List.length_append, List.length_singleton] at this
        exact this
      iterate 6 refine hX ?_
      refine And.intro (vp_in_nI (by omega) (by omega)) ?_
      rw [nI_clamp (by omega), at1]
      refine hX ?_
      refine And.intro (vp_in_nI (by omega) (by omega)) ?_
      rw [nI_clamp (by omega), rowE_let hg]
      iterate 6 refine hX ?_
      refine And.intro (vp_in_nI (by omega) (by omega)) ?_
      rw [nI_clamp (by omega), at2]
      refine hX ?_
      refine And.intro (vp_in_nI (by omega) (by omega)) ?_
      rw [nI_clamp (by omega), rowE_let hg]
      refine hX ?_
      refine And.intro (fun he => ?_) (fun he => keep (fun q => he q.1))
      iterate 6 refine hX ?_
      refine And.intro (vp_in_nI (by omega) (by omega)) ?_
      rw [nI_clamp (by omega), at1]
      refine hX ?_
      refine And.intro (vp_in_nI (by omega) (by omega)) ?_
      rw [nI_clamp (by omega), rowE_let hg]
      refine hX (cP [] [.int (E.flatten.getD z.1 0)] [] (some (.int (fxI (E.flatten.getD z.1 0)))) [.int (fxI (E.flatten.getD z.1 0))] (by omega) rfl rfl rfl rfl (fun Q' hQ' => m_isFlex hX (by show 1 ≤ B.1 - 1; omega) hQ') ?_)
      rcases fxI_or (E.flatten.getD z.1 0) with hf | hf
      · rw [hf]
        refine hX (And.intro (fun _ => ?_) (fun h => absurd rfl h))
        obtain ⟨t1, t2⟩ := tk_apart hI ⟨he, hf⟩
        iterate 3 refine hX ?_
        refine And.intro trivial (cMw [.ref 0, .int (nI D.length)] (fun u : List Int32 × List Int32 => plR (D ++ (kids E.flatten z ++ T)) u.1 u.2) (fun _ => none) (fun u => (MW (rowE E) fr pa st rf tx ln bo ss ai fi op dp wr wm u.1 u.2 (nI (D ++ (kids E.flatten z ++ T)).length) ch sd sm pk sv sz vm hpz pl sg wt bu hsh)) (by omega) rfl rfl (fun _ => rfl) (fun _ => rfl) (fun _ => rfl) (fun Q' hQ' => m_takesApart hX (by show 5 ≤ B.1 - 1; omega) hg hz he hP h20 (fun a b h => hQ' (a, b) h)) (fun u hu => ?_))
        refine hX ?_
        exact ih D _ u.1 u.2 (by omega) t1 hu
      · rw [hf]
        exact hX (And.intro (fun h => absurd h (by decide)) (fun _ => keep (fun q => by rw [hf] at q; exact absurd q.2 (by decide))))
theorem m_lays1 (hX : Cl sc X) (hB : 2 ≤ B.1) {E : List (List Int32)} (hg : gE E) (hq : ∀ g1 g2, plR (eqP E 0) g1 g2 → X B 159 43 [some (.ref 0), some (.int (nI (E.length / 2)))] [] (MW (rowE E) fr pa st rf tx ln bo ss ai fi op dp wr wm g1 g2 (nI (eqP E 0).length) ch sd sm pk sv sz vm hpz pl sg wt bu hsh) Q) :
    ∀ (m e : Nat), e + m = E.length / 2 → ∀ (g1 g2 : List Int32), plR ((eqP E 0).take e) g1 g2 → X B 159 7 [some (.ref 0), some (.int (nI e))] [] (MW (rowE E) fr pa st rf tx ln bo ss ai fi op dp wr wm g1 g2 (nI e) ch sd sm pk sv sz vm hpz pl sg wt bu hsh) Q := by
  have hl := rowE_len hg
  have h8 := hg.1.1
  obtain ⟨e1, e2⟩ := eqP_get E.length E 0 (Nat.le_refl _)
  intro m
  induction m with
  | zero =>
    intro e he g1 g2 hP
    have : e = E.length / 2 := by omega
    subst this
    iterate 5 refine hX ?_
    refine And.intro (vp_in_nI (n := 0) (by omega) (by omega)) ?_
    rw [show Int32.toNatClampNeg 0 = 0 from rfl, rowE_0]
    refine hX ?_
    refine And.intro (fun _ => ?_) (fun h => absurd (Int32.le_refl _) h)
    rw [← e1, List.take_length] at hP
    have := hq g1 g2 hP
    rw [e1] at this
    exact this
  | succ m ih =>
    intro e he g1 g2 hP
    have hte : ((eqP E 0).take e).length = e := by rw [List.length_take, e1]; omega
    iterate 5 refine hX ?_
    refine And.intro (vp_in_nI (n := 0) (by omega) (by omega)) ?_
    rw [show Int32.toNatClampNeg 0 = 0 from rfl, rowE_0]
    refine hX ?_
    refine And.intro (fun h => absurd ((nle (by omega) (by omega)).mp h) (by omega)) (fun _ => ?_)
    iterate 7 refine hX ?_
    refine c_begin2 (j := 0) hX (by omega) hg (by omega) rfl ?_
    iterate 4 refine hX ?_
    refine c_begin2 (j := 1) hX (by omega) hg (by omega) rfl ?_
    refine hX ?_
    have hz := e2 e (by omega)
    rw [Nat.zero_add, Nat.zero_add] at hz
    have hns : (eqP E 0).take (e + 1) = (eqP E 0).take e ++ [(pre E (2 * e + 0), pre E (2 * e + 1))] := by
      rw [take_succ_getD (0, 0) (by omega), hz]
      rfl
    have hnl : ((eqP E 0).take e ++ [(pre E (2 * e + 0), pre E (2 * e + 1))]).length = e + 1 := by rw [List.length_append, hte]; rfl
    refine And.intro trivial (cMw [.ref 0, .int (nI e), .int (nI (9 + pre E (2 * e + 0))), .int (nI (9 + pre E (2 * e + 1)))] (fun u : List Int32 × List Int32 => plR ((eqP E 0).take e ++ [(pre E (2 * e + 0), pre E (2 * e + 1))]) u.1 u.2) (fun _ => none) (fun u => (MW (rowE E) fr pa st rf tx ln bo ss ai fi op dp wr wm u.1 u.2 (nI (e + 1)) ch sd sm pk sv sz vm hpz pl sg wt bu hsh)) (by omega) rfl rfl (fun _ => rfl) (fun _ => rfl) (fun _ => rfl) (fun Q' hQ' => ?_) (fun u hu => ?_))
    · have := m_comesIn (B := (B.1 - 1, 0, 0)) (Q := Q') hX (nw := rowE E) (A := (eqP E 0).take e) (R := []) (p := pre E (2 * e + 0)) (q := pre E (2 * e + 1)) (by rw [List.append_nil]; exact hP) (by rw [List.append_nil, hte]; omega) (fun a b h => by rw [hnl]; exact hQ' (a, b) h)
      rw [List.append_nil, hte] at this
      exact this
    · iterate 2 refine hX ?_
      rw [show nI e + 1 = nI (e + 1) from (nI_succ e).symm]
      exact ih (e + 1) (by omega) u.1 u.2 (by rw [hns]; exact hu)
theorem m_laysPairs (hX : Cl sc X) (hB : 6 ≤ B.1) {E : List (List Int32)} (hg : gE E) (hf : f1.length = 24 ∧ f2.length = 24) (hq : ∀ g1 g2, plR (prs E.flatten E 0) g1 g2 → (prs E.flatten E 0).length ≤ 20 → Q none (MW (rowE E) fr pa st rf tx ln bo ss ai fi op dp wr wm g1 g2 (nI (prs E.flatten E 0).length) ch sd sm pk sv sz vm hpz pl sg wt bu hsh)) : X B 159 0 [some (.ref 0), none] [] (MW (rowE E) fr pa st rf tx ln bo ss ai fi op dp wr wm f1 f2 pm ch sd sm pk sv sz vm hpz pl sg wt bu hsh) Q := by
  iterate 5 refine hX ?_
  refine m_lays1 hX (by omega) hg (fun g1 g2 hP => ?_) (E.length / 2) 0 (by omega) f1 f2 ⟨⟨hf.1, hf.2, by simp⟩, fun i hi => by simp at hi⟩
  iterate 2 refine hX ?_
  obtain ⟨o1, o2⟩ := eqP_ok (l := E.flatten) E.length E 0 (Nat.le_refl _) rfl hg.2.1
  have h40 := hg.1.2.1
  exact m_lays2 hX hB hg (R := prs E.flatten E 0) hq _ [] (eqP E 0) g1 g2 (Nat.le_refl _) ⟨by rw [List.nil_append]; exact eqP_prs _ E.length E 0 (Nat.le_refl _), o1, by rw [List.length_nil]; omega⟩ hP
end MI
