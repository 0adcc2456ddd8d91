/-! The model: THE TEXT, read. -/
def bl : List Int32 → Nat
  | [] => 0
  | c :: r => if c = 32 then bl r + 1 else 0
def skp (t : List Int32) (i : Nat) : Nat := i + bl (t.drop i)
theorem bl_le : ∀ (l : List Int32), bl l ≤ l.length
  | [] => Nat.le_refl _
  | c :: r => by
    rw [bl]
    have := bl_le r
    split <;> rw [List.length_cons] <;> omega
theorem bl_head : ∀ (l : List Int32), bl l < l.length → ¬ l.getD (bl l) 0 = 32
  | [], h => by simp [bl] at h
  | c :: r, h => by
    rw [bl] at h ⊢
    split
    · rename_i hc
      rw [if_pos hc, List.length_cons] at h
      rw [getD_cons]
      exact bl_head r (by omega)
    · rename_i hc
      exact hc
theorem parse_bl : ∀ (l : List Int32) (i : Nat) (σ : pS), parse l i σ = parse (l.drop (bl l)) (i + bl l) σ
  | [], i, σ => rfl
  | c :: r, i, σ => by
    by_cases hc : c = 32
    · rw [bl, if_pos hc, List.drop_succ_cons, parse, if_pos hc, parse_bl r (i + 1) σ, show i + 1 + bl r = i + (bl r + 1) by omega]
    · rw [bl, if_neg hc]
      rfl
theorem skp_le {t : List Int32} {i : Nat} (h : i ≤ t.length) : i ≤ skp t i ∧ skp t i ≤ t.length := by
  have := bl_le (t.drop i)
  rw [List.length_drop] at this
  rw [skp]
  omega
theorem skp_head {t : List Int32} {i : Nat} (h : skp t i < t.length) : ¬ t.getD (skp t i) 0 = 32 := by
  have h1 := bl_head (t.drop i) (by rw [List.length_drop]; rw [skp] at h; omega)
  rw [List.getD_eq_getElem?_getD, List.getElem?_drop] at h1
  rw [List.getD_eq_getElem?_getD, skp]
  exact h1
theorem skp_parse {t : List Int32} {i : Nat} {σ : pS} : parse (t.drop i) i σ = parse (t.drop (skp t i)) (skp t i) σ := by
  rw [parse_bl, List.drop_drop, skp]
theorem pass1 {t : List Int32} {i : Nat} {σ σ' : pS} {R : Nat ⊕ List (List Int32)} (h : parse (t.drop i) i σ = R) (h1 : skp t i < t.length) (h3 : pst σ (t.getD (skp t i) 0) = some σ') : parse (t.drop (skp t i + 1)) (skp t i + 1) σ' = R := by
  rw [skp_parse, drop_cons h1, parse, if_neg (skp_head h1), h3] at h
  exact h
theorem pass0 {t : List Int32} {i : Nat} {σ : pS} {R : Nat ⊕ List (List Int32)} (hi : i ≤ t.length) (h : parse (t.drop i) i σ = R) (h1 : ¬ σ.2.2.2 = 0) (h2 : skp t i < t.length → pst σ (t.getD (skp t i) 0) = none) : R = .inl (skp t i) := by
  by_cases h3 : skp t i < t.length
  · rw [skp_parse, drop_cons h3, parse, if_neg (skp_head h3), h2 h3] at h
    exact h.symm
  · rw [skp_parse, List.drop_eq_nil_of_le (by omega), parse, if_neg h1] at h
    exact h.symm
/-- a stack of numbers in a row of 41, its top first -/
def stQ (s : List Nat) (op : List Int32) : Prop := op.length = 41 ∧ s.length ≤ 41 ∧ ∀ i, i < s.length → op.getD (s.length - 1 - i) 0 = nI (s.getD i 0)
theorem stQ_top {p : Nat} {s : List Nat} {op : List Int32} (h : stQ (p :: s) op) : op.getD s.length 0 = nI p ∧ stQ s op ∧ s.length < 41 := by
  obtain ⟨h1, h2, h3⟩ := h
  rw [List.length_cons] at h2 h3
  refine ⟨?_, ⟨h1, by omega, fun i hi => ?_⟩, by omega⟩
  · have := h3 0 (by omega)
    simpa using this
  · have := h3 (i + 1) (by omega)
    rw [show s.length + 1 - 1 - (i + 1) = s.length - 1 - i by omega] at this
    simpa using this
theorem stQ_push {p : Nat} {s : List Nat} {op : List Int32} (h : stQ s op) (hs : s.length < 41) : stQ (p :: s) (op.set s.length (nI p)) := by
  obtain ⟨h1, h2, h3⟩ := h
  refine ⟨by rw [List.length_set]; exact h1, by rw [List.length_cons]; omega, fun i hi => ?_⟩
  rw [List.length_cons] at hi ⊢
  cases i with
  | zero =>
    rw [show s.length + 1 - 1 - 0 = s.length by omega, getD_set_eq (by omega)]
    rfl
  | succ i =>
    rw [show s.length + 1 - 1 - (i + 1) = s.length - 1 - i by omega, getD_set_ne (by omega), h3 i (by omega)]
    simp
theorem stQ_nil {op : List Int32} (h : op.length = 41) : stQ [] op := ⟨h, by simp, fun i hi => by simp at hi⟩
/-- what is read so far: E stands, these letters -/
def frR (E : List (List Int32)) (lt fr : List Int32) : Prop := (fr.length = 49 ∧ lt.length ≤ 40 ∧ E.length ≤ 8) ∧ fr.getD 0 0 = nI (E.length / 2) ∧ (∀ k, k < 8 → fr.getD (k + 1) 0 = nI (E.getD k []).length) ∧ ∀ k, k < 40 → fr.getD (9 + k) 0 = lt.getD k 0
theorem frR_push {E : List (List Int32)} {lt fr : List Int32} (h : frR E lt fr) (hl : lt.length < 40) (c : Int32) : frR E (lt ++ [c]) (fr.set (9 + lt.length) c) := by
  obtain ⟨⟨h1, h2, h3⟩, h4, h5, h6⟩ := h
  refine ⟨⟨by rw [List.length_set]; exact h1, by rw [List.length_append, List.length_singleton]; omega, h3⟩, by rw [getD_set_ne (by omega)]; exact h4, fun k hk => by rw [getD_set_ne (by omega)]; exact h5 k hk, fun k hk => ?_⟩
  by_cases e : 9 + lt.length = 9 + k
  · rw [show k = lt.length by omega, getD_set_eq (by omega), getD_app2]
  · rw [getD_set_ne e, h6 k hk]
    by_cases hk2 : k < lt.length
    · rw [getD_app1 hk2]
    · rw [getD_out (by omega), getD_out (by rw [List.length_append, List.length_singleton]; omega)]
section MC
variable {sc : List Int32} {X : pX} {B : pB} {Q : pQ} {nw fr pa rf tx bo ss op wr f1 f2 ch sd pk sv sz hpz pl sg bu : List Int32} {st ln ai fi dp wm pm sm vm wt : Int32} {hsh : Int64}
theorem m_blanks (hX : Cl sc X) {t : List Int32} (hT : txR t tx ln) : ∀ (r : List Int32) (i : Nat), t.drop i = r → i ≤ t.length → Q none (MW nw fr pa st rf tx ln bo ss (nI (i + bl r)) fi op dp wr wm f1 f2 pm ch sd sm pk sv sz vm hpz pl sg wt bu hsh) → X B 131 0 [some (.ref 0)] [] (MW nw fr pa st rf tx ln bo ss (nI i) fi op dp wr wm f1 f2 pm ch sd sm pk sv sz vm hpz pl sg wt bu hsh) Q := by
  obtain ⟨t1, t2, t3, rfl⟩ := id hT
  intro r
  induction r with
  | nil =>
    intro i hr hi hq
    have hl : t.length ≤ i := by have := congrArg List.length hr; rw [List.length_drop] at this; simp at this; omega
    iterate 5 refine hX ?_
    refine And.intro (fun _ => ?_) (fun h => absurd ((nle (by omega) (by omega)).mpr hl) h)
    refine hX ?_
    exact hq
  | cons c r ih =>
    intro i hr hi hq
    have hl : i < t.length := by have := congrArg List.length hr; rw [List.length_drop, List.length_cons] at this; omega
    rw [drop_cons hl, List.cons.injEq] at hr
    obtain ⟨hc, hr⟩ := hr
    have hc2 : tx.getD i 0 = c := by rw [← getD_take (n := t.length) hl, t3]; exact hc
    iterate 5 refine hX ?_
    refine And.intro (fun h => absurd ((nle (by omega) (by omega)).mp h) (by omega)) (fun _ => ?_)
    iterate 5 refine hX ?_
    refine And.intro (vp_in_nI (by omega) (by omega)) ?_
    rw [nI_clamp (by omega), hc2]
    iterate 2 refine hX ?_
    refine And.intro (fun h => ?_) (fun h => ?_)
    · rw [bl, if_pos h] at hq
      iterate 7 refine hX ?_
      rw [show nI i + 1 = nI (i + 1) from (nI_succ i).symm]
      exact ih (i + 1) hr (by omega) (by rw [show i + 1 + bl r = i + (bl r + 1) by omega]; exact hq)
    · rw [bl, if_neg h] at hq
      refine hX ?_
      exact hq
theorem tx_at {t : List Int32} (hT : txR t tx ln) {i : Nat} (h : i < t.length) : tx.getD i 0 = t.getD i 0 := by
  rw [← getD_take (n := t.length) h, hT.2.2.1]
theorem c_blanks (hX : Cl sc X) (hB : 1 ≤ B.1) {me n : Nat} {ls : pL} {t : List Int32} (hT : txR t tx ln) {i : Nat} (hi : i ≤ t.length) (hq : X B me n ls [] (MW nw fr pa st rf tx ln bo ss (nI (skp t i)) fi op dp wr wm f1 f2 pm ch sd sm pk sv sz vm hpz pl sg wt bu hsh) Q) : oCallV 131 11 1 1 n X B me ls [.ref 0] (MW nw fr pa st rf tx ln bo ss (nI i) fi op dp wr wm f1 f2 pm ch sd sm pk sv sz vm hpz pl sg wt bu hsh) Q :=
  And.intro trivial (cDw [.ref 0] none (MW nw fr pa st rf tx ln bo ss (nI (skp t i)) fi op dp wr wm f1 f2 pm ch sd sm pk sv sz vm hpz pl sg wt bu hsh) hB rfl rfl rfl rfl rfl (fun Q' hQ' => m_blanks hX hT _ i rfl hi hQ') hq)
theorem m_passes (hX : Cl sc X) (hB : 1 ≤ B.1) {t : List Int32} (hT : txR t tx ln) {i : Nat} (hi : i ≤ t.length) {c : Int32} (hq1 : skp t i < t.length → t.getD (skp t i) 0 = c → Q (some (.int 1)) (MW nw fr pa st rf tx ln bo ss (nI (skp t i + 1)) fi op dp wr wm f1 f2 pm ch sd sm pk sv sz vm hpz pl sg wt bu hsh)) (hq0 : ¬ (skp t i < t.length ∧ t.getD (skp t i) 0 = c) → Q (some (.int 0)) (MW nw fr pa st rf tx ln bo ss (nI (skp t i)) fi op dp wr wm f1 f2 pm ch sd sm pk sv sz vm hpz pl sg wt bu hsh)) : X B 132 0 [some (.ref 0), some (.int c), none] [] (MW nw fr pa st rf tx ln bo ss (nI i) fi op dp wr wm f1 f2 pm ch sd sm pk sv sz vm hpz pl sg wt bu hsh) Q := by
  have hk := skp_le hi
  have hta := tx_at (i := skp t i) hT
  obtain ⟨t1, t2, t3, rfl⟩ := id hT
  iterate 2 refine hX ?_
  refine c_blanks hX hB hT hi ?_
  generalize skp t i = j at hq1 hq0 hk hta ⊢
  have fail : ¬ (j < t.length ∧ t.getD j 0 = c) → X B 132 32 [some (.ref 0), some (.int c), none] [] (MW nw fr pa st rf tx (nI t.length) bo ss (nI j) fi op dp wr wm f1 f2 pm ch sd sm pk sv sz vm hpz pl sg wt bu hsh) Q := by
    intro h
    iterate 7 refine hX ?_
    refine And.intro (fun _ => ?_) (fun h => absurd rfl h)
    iterate 5 refine hX ?_
    refine And.intro (Or.inl rfl) ?_
    rw [show nI j + 0 = nI j from nadd j 0]
    exact hq0 h
  iterate 5 refine hX ?_
  refine And.intro (fun h => fail (fun q => absurd ((nle (by omega) (by omega)).mp h) (by omega))) (fun h => ?_)
  have hl : j < t.length := Nat.not_le.mp fun q => h ((nle (by omega) (by omega)).mpr q)
  iterate 5 refine hX ?_
  refine And.intro (vp_in_nI (by omega) (by omega)) ?_
  rw [nI_clamp (by omega), hta hl]
  iterate 2 refine hX ?_
  refine And.intro (fun h2 => ?_) (fun h2 => fail (fun q => h2 q.2))
  iterate 8 refine hX ?_
  refine And.intro (fun h => absurd h (by decide)) (fun _ => ?_)
  iterate 6 refine hX ?_
  refine And.intro (Or.inr rfl) ?_
  rw [show nI j + 1 = nI (j + 1) from (nI_succ j).symm]
  exact hq1 hl h2
theorem m_letterPassed (hX : Cl sc X) (hB : 4 ≤ B.1) {t : List Int32} (hT : txR t tx ln) {i : Nat} (hi : i ≤ t.length) {lt : List Int32} (hl40 : lt.length ≤ 40) (hfl : fr.length = 49) (hq1 : skp t i < t.length → ¬ kdI (t.getD (skp t i) 0) = -1 → lt.length < 40 → Q (some (.int (nI (arN (t.getD (skp t i) 0))))) (MW nw (fr.set (9 + lt.length) (t.getD (skp t i) 0)) pa st rf tx ln bo ss (nI (skp t i + 1)) (nI (lt.length + 1)) op dp wr wm f1 f2 pm ch sd sm pk sv sz vm hpz pl sg wt bu hsh)) (hq0 : (skp t i < t.length → kdI (t.getD (skp t i) 0) = -1 ∨ 40 ≤ lt.length) → Q (some (.int (-1))) (MW nw fr pa st rf tx ln bo ss (nI (skp t i)) (nI lt.length) op dp wr wm f1 f2 pm ch sd sm pk sv sz vm hpz pl sg wt bu hsh)) : X B 133 0 [some (.ref 0)] [] (MW nw fr pa st rf tx ln bo ss (nI i) (nI lt.length) op dp wr wm f1 f2 pm ch sd sm pk sv sz vm hpz pl sg wt bu hsh) Q := by
  have hk := skp_le hi
  have hta := tx_at (i := skp t i) hT
  obtain ⟨t1, t2, t3, rfl⟩ := id hT
  iterate 2 refine hX ?_
  refine c_blanks hX (by omega) hT hi ?_
  generalize skp t i = j at hq1 hq0 hk hta ⊢
  have fail : (j < t.length → kdI (t.getD j 0) = -1 ∨ 40 ≤ lt.length) → X B 133 39 [some (.ref 0)] [] (MW nw fr pa st rf tx (nI t.length) bo ss (nI j) (nI lt.length) op dp wr wm f1 f2 pm ch sd sm pk sv sz vm hpz pl sg wt bu hsh) Q := by
    intro h
    iterate 2 refine hX ?_
    exact hq0 h
  iterate 5 refine hX ?_
  refine And.intro (fun h => fail (fun q => absurd ((neq (by omega) (by omega)).mp h) (by omega))) (fun h => ?_)
  have hl : j < t.length := by
    have : ¬ j = t.length := fun q => h (by rw [q])
    omega
  iterate 5 refine hX ?_
  refine And.intro (vp_in_nI (by omega) (by omega)) ?_
  rw [nI_clamp (by omega), hta hl]
  generalize hc : t.getD j 0 = c at hq1 hq0 fail
  refine hX (cP [] [.int c] [] (some (.int (ilI c))) [.int (ilI c)] (by omega) rfl rfl rfl rfl (fun Q' hQ' => m_isLetter hX (by show 3 ≤ B.1 - 1; omega) hQ') ?_)
  by_cases hk2 : kdI c = -1
  · rw [ilI, if_pos hk2]
    exact hX (And.intro (fun _ => fail (fun _ => Or.inl hk2)) (fun h => absurd rfl h))
  rw [ilI, if_neg hk2]
  refine hX (And.intro (fun h => absurd h (by decide)) (fun _ => ?_))
  iterate 4 refine hX ?_
  refine And.intro (fun h => fail (fun _ => Or.inr (by rw [(neq (b := 40) (by omega) (by omega)).mp h]; omega))) (fun h => ?_)
  have hl4 : lt.length < 40 := by
    have : ¬ lt.length = 40 := fun q => h (by rw [q]; rfl)
    omega
  iterate 11 refine hX ?_
  refine And.intro (vp_in_nI (by omega) (by omega)) ?_
  refine hX ?_
  rw [show (9 : Int32) + nI lt.length = nI (9 + lt.length) from nadd 9 _]
  refine And.intro (vp_in_nI (by omega) (by omega)) ?_
  rw [nI_clamp (by omega), nI_clamp (by omega), hta hl, hc]
  iterate 19 refine hX ?_
  rw [show nI j + 1 = nI (j + 1) from (nI_succ j).symm, nI_pred]
  refine And.intro (vp_in_nI (by omega) (by omega)) ?_
  rw [nI_clamp (by omega), hta hl, hc, show nI lt.length + 1 = nI (lt.length + 1) from (nI_succ _).symm]
  refine hX (cP [] [.int c] [] (some (.int (prI c))) [.int (prI c)] (by omega) rfl rfl rfl rfl (fun Q' hQ' => m_partsOf hX (by show 2 ≤ B.1 - 1; omega) hQ') ?_)
  rw [prI_let hk2]
  refine hX ?_
  exact hq1 hl hk2 hl4
end MC
