/-! The model: EQUATIONS as a row; what was before; THE TEXT. -/
def padI (n : Nat) (l : List Int32) : List Int32 := l ++ List.replicate (n - l.length) 0
theorem padI_len {n : Nat} {l : List Int32} (h : l.length ≤ n) : (padI n l).length = n := by
  rw [padI, List.length_append, List.length_replicate]; omega
theorem padI_get {n k : Nat} {l : List Int32} : (padI n l).getD k 0 = l.getD k 0 := by
  rw [padI]
  by_cases h : k < l.length
  · exact getD_app1 h
  · rw [getD_out (l := l) (by omega), List.getD_eq_getElem?_getD, List.getElem?_append_right (by omega)]
    by_cases h2 : k - l.length < n - l.length
    · rw [List.getElem?_replicate_of_lt h2]; rfl
    · rw [List.getElem?_eq_none (by rw [List.length_replicate]; omega)]; rfl
def rowE (E : List (List Int32)) : List Int32 := nI (E.length / 2) :: (padI 8 (E.map fun t => nI t.length) ++ padI 40 E.flatten)
theorem rowE_len {E : List (List Int32)} (h : gE E) : (rowE E).length = 49 := by
  rw [rowE, List.length_cons, List.length_append, padI_len (by rw [List.length_map]; exact h.1.1), padI_len h.1.2.1]
theorem rowE_0 {E : List (List Int32)} : (rowE E).getD 0 0 = nI (E.length / 2) := rfl
theorem getD_map_len {E : List (List Int32)} {k : Nat} : (E.map fun t => nI t.length).getD k 0 = nI (E.getD k []).length := by
  rw [List.getD_eq_getElem?_getD, List.getD_eq_getElem?_getD, List.getElem?_map]
  cases E[k]? with
  | none => rfl
  | some t => rfl
theorem getD_cons {α : Type} {a d : α} {l : List α} {k : Nat} : (a :: l).getD (k + 1) d = l.getD k d := by
  rw [List.getD_eq_getElem?_getD, List.getD_eq_getElem?_getD, List.getElem?_cons_succ]
theorem getD_appR {α : Type} {l r : List α} {i : Nat} {d : α} (h : l.length ≤ i) : (l ++ r).getD i d = r.getD (i - l.length) d := by
  rw [List.getD_eq_getElem?_getD, List.getD_eq_getElem?_getD, List.getElem?_append_right h]
theorem rowE_side {E : List (List Int32)} (h : gE E) {k : Nat} (hk : k < 8) : (rowE E).getD (k + 1) 0 = nI (E.getD k []).length := by
  have hl : (padI 8 (E.map fun t => nI t.length)).length = 8 := padI_len (by rw [List.length_map]; exact h.1.1)
  rw [rowE, getD_cons, getD_app1 (by rw [hl]; exact hk), padI_get, getD_map_len]
theorem rowE_let {E : List (List Int32)} (h : gE E) {k : Nat} : (rowE E).getD (9 + k) 0 = E.flatten.getD k 0 := by
  have hl : (padI 8 (E.map fun t => nI t.length)).length = 8 := padI_len (by rw [List.length_map]; exact h.1.1)
  rw [show 9 + k = (8 + k) + 1 by omega, rowE, getD_cons, getD_appR (by rw [hl]; omega), hl, show 8 + k - 8 = k by omega, padI_get]
theorem row_ext {E : List (List Int32)} (h : gE E) {r : List Int32} (h0 : r.length = 49) (h1 : r.getD 0 0 = nI (E.length / 2)) (h2 : ∀ k, k < 8 → r.getD (k + 1) 0 = nI (E.getD k []).length) (h3 : ∀ k, k < 40 → r.getD (9 + k) 0 = E.flatten.getD k 0) : r = rowE E := by
  refine ext_getD 0 (by rw [h0, rowE_len h]) (fun y => ?_)
  by_cases hy : y < 49
  · rcases (show y = 0 ∨ (0 < y ∧ y < 9) ∨ 9 ≤ y by omega) with rfl | hy2 | hy2
    · rw [h1, rowE_0]
    · rw [show y = (y - 1) + 1 by omega, h2 _ (by omega), rowE_side h (by omega)]
    · rw [show y = 9 + (y - 9) by omega, h3 _ (by omega), rowE_let h]
  · rw [getD_out (by omega), getD_out (by rw [rowE_len h]; omega)]
/-- what was before -/
def paR (hs : List (List (List Int32))) (pa : List Int32) : Prop := (pa.length = 245 ∧ hs.length ≤ 5 ∧ ∀ E ∈ hs, gE E) ∧ ∀ i, i < hs.length → ∀ k, k < 49 → pa.getD (49 * i + k) 0 = (rowE (hs.getD i [])).getD k 0
def txR (t tx : List Int32) (ln : Int32) : Prop := t.length ≤ 120 ∧ tx.length = 120 ∧ tx.take t.length = t ∧ ln = nI t.length
section MB
variable {sc : List Int32} {X : pX} {B : pB} {Q : pQ} {nw fr pa rf tx bo ss op wr f1 f2 ch sd pk sv sz hpz pl sg bu : List Int32} {st ln ai fi dp wm pm sm vm wt : Int32} {hsh : Int64}
theorem m_leaves2 (hX : Cl sc X) {c : Nat} (hc : c < 5) (hn : nw.length = 49) (hq : ∀ pa', pa'.length = 245 → (∀ q, pa'.getD q 0 = if 49 * c ≤ q ∧ q < 49 * c + 49 then nw.getD (q - 49 * c) 0 else pa.getD q 0) → Q none (MW nw fr pa' (nI (c + 1)) rf tx ln bo ss ai fi op dp wr wm f1 f2 pm ch sd sm pk sv sz vm hpz pl sg wt bu hsh)) :
    ∀ (n k : Nat), k + n = 49 → ∀ (p : List Int32), p.length = 245 → (∀ q, p.getD q 0 = if 49 * c ≤ q ∧ q < 49 * c + k then nw.getD (q - 49 * c) 0 else pa.getD q 0) → X B 127 50 [some (.ref 0), some (.int (nI k))] [] (MW nw fr p (nI c) rf tx ln bo ss ai fi op dp wr wm f1 f2 pm ch sd sm pk sv sz vm hpz pl sg wt bu hsh) Q := by
  intro n
  induction n with
  | zero =>
    intro k hk p h1 h2
    iterate 3 refine hX ?_
    refine And.intro (fun _ => ?_) (fun h => absurd ((nle (a := 49) (by omega) (by omega)).mpr (by omega)) h)
    iterate 7 refine hX ?_
    rw [show nI c + 1 = nI (c + 1) from (nI_succ c).symm]
    have : k = 49 := by omega
    subst this
    exact hq p h1 h2
  | succ n ih =>
    intro k hk p h1 h2
    iterate 3 refine hX ?_
    refine And.intro (fun h => absurd ((nle (a := 49) (by omega) (by omega)).mp h) (by omega)) (fun _ => ?_)
    iterate 12 refine hX ?_
    refine And.intro (vp_in_nI (by omega) (by omega)) ?_
    refine hX ?_
    rw [show (49 : Int32) * nI c + nI k = nI (49 * c + k) by rw [show (49 : Int32) = nI 49 from rfl, nmul, nadd]]
    refine And.intro (vp_in_nI (by omega) (by omega)) ?_
    rw [nI_clamp (by omega), nI_clamp (by omega)]
    iterate 2 refine hX ?_
    rw [show nI k + 1 = nI (k + 1) from (nI_succ k).symm]
    refine ih (k + 1) (by omega) _ (by rw [List.length_set]; exact h1) (fun q => ?_)
    by_cases e : 49 * c + k = q
    · subst e
      rw [getD_set_eq (by omega), if_pos (by omega)]
      congr 1
      omega
    · rw [getD_set_ne e, h2 q]
      by_cases h3 : 49 * c ≤ q ∧ q < 49 * c + k
      · rw [if_pos h3, if_pos (by omega)]
      · rw [if_neg h3, if_neg (by omega)]
theorem m_leaves1 (hX : Cl sc X) (hq : ∀ pa', pa'.length = 245 → (∀ q, q < 196 → pa'.getD q 0 = pa.getD (q + 49) 0) → X B 127 38 [some (.ref 0), some (.int (nI 196))] [] (MW nw fr pa' st rf tx ln bo ss ai fi op dp wr wm f1 f2 pm ch sd sm pk sv sz vm hpz pl sg wt bu hsh) Q) :
    ∀ (n k : Nat), k + n = 196 → ∀ (p : List Int32), p.length = 245 → (∀ q, q < k → p.getD q 0 = pa.getD (q + 49) 0) → (∀ q, k ≤ q → p.getD q 0 = pa.getD q 0) → X B 127 10 [some (.ref 0), some (.int (nI k))] [] (MW nw fr p st rf tx ln bo ss ai fi op dp wr wm f1 f2 pm ch sd sm pk sv sz vm hpz pl sg wt bu hsh) Q := by
  intro n
  induction n with
  | zero =>
    intro k hk p h1 h2 h3
    have : k = 196 := by omega
    subst this
    iterate 3 refine hX ?_
    refine And.intro (fun _ => ?_) (fun h => absurd ((nle (a := 196) (by omega) (by omega)).mpr (by omega)) h)
    exact hq p h1 h2
  | succ n ih =>
    intro k hk p h1 h2 h3
    iterate 3 refine hX ?_
    refine And.intro (fun h => absurd ((nle (a := 196) (by omega) (by omega)).mp h) (by omega)) (fun _ => ?_)
    iterate 9 refine hX ?_
    rw [show nI k + 49 = nI (k + 49) from nadd k 49]
    refine And.intro (vp_in_nI (by omega) (by omega)) ?_
    refine hX ?_
    refine And.intro (vp_in_nI (by omega) (by omega)) ?_
    rw [nI_clamp (by omega), nI_clamp (by omega)]
    iterate 2 refine hX ?_
    rw [show nI k + 1 = nI (k + 1) from (nI_succ k).symm]
    refine ih (k + 1) (by omega) _ (by rw [List.length_set]; exact h1) (fun q hq2 => ?_) (fun q hq2 => ?_)
    · by_cases e : k = q
      · subst e
        rw [getD_set_eq (by omega), h3 _ (by omega)]
      · rw [getD_set_ne e, h2 q (by omega)]
    · rw [getD_set_ne (by omega), h3 q (by omega)]
theorem m_leaves (hX : Cl sc X) {hs0 : List (List (List Int32))} {E : List (List Int32)} (hg : gE E) (hP : paR hs0 pa) (hq : ∀ pa', paR (psh hs0 E) pa' → Q none (MW (rowE E) fr pa' (nI (psh hs0 E).length) rf tx ln bo ss ai fi op dp wr wm f1 f2 pm ch sd sm pk sv sz vm hpz pl sg wt bu hsh)) : X B 127 0 [some (.ref 0), none] [] (MW (rowE E) fr pa (nI hs0.length) rf tx ln bo ss ai fi op dp wr wm f1 f2 pm ch sd sm pk sv sz vm hpz pl sg wt bu hsh) Q := by
  obtain ⟨⟨p1, p2, p3⟩, p4⟩ := id hP
  have hr := rowE_len hg
  iterate 4 refine hX ?_
  refine And.intro (fun h5 => ?_) (fun h5 => ?_)
  · have h5' : hs0.length = 5 := (neq (b := 5) (by omega) (by omega)).mp h5
    have hpsh : psh hs0 E = hs0.drop 1 ++ [E] := by rw [psh, if_pos h5']
    rw [hpsh] at hq
    iterate 2 refine hX ?_
    refine m_leaves1 hX (fun pa' a1 a2 => ?_) 196 0 rfl pa p1 (fun q h => by omega) (fun q _ => rfl)
    iterate 6 refine hX ?_
    rw [h5', show nI 5 - 1 = nI 4 from rfl]
    iterate 2 refine hX ?_
    refine m_leaves2 hX (c := 4) (pa := pa') (by omega) hr (fun pa2 b1 b2 => ?_) 49 0 rfl pa' a1 (fun q => by rw [if_neg (by omega)])
    have hl : (hs0.drop 1 ++ [E]).length = 5 := by rw [List.length_append, List.length_drop, List.length_singleton]; omega
    have := hq pa2 ⟨⟨b1, by omega, fun F hF => ?_⟩, fun i hi k hk => ?_⟩
    · rw [hl] at this
      exact this
    · rcases List.mem_append.mp hF with hF | hF
      · exact p3 F (List.mem_of_mem_drop hF)
      · rw [List.mem_singleton.mp hF]; exact hg
    · rw [hl] at hi
      by_cases e : i = 4
      · subst e
        rw [b2, if_pos (by omega), getD_appR (by rw [List.length_drop]; omega), List.length_drop, h5']
        rw [show 49 * 4 + k - 49 * 4 = k by omega]
        rfl
      · rw [b2, if_neg (by omega), a2 _ (by omega), getD_app1 (by rw [List.length_drop]; omega), show 49 * i + k + 49 = 49 * (i + 1) + k by omega, p4 (i + 1) (by omega) k hk]
        congr 2
        rw [List.getD_eq_getElem?_getD, List.getD_eq_getElem?_getD, List.getElem?_drop, Nat.add_comm]
  · have h5' : hs0.length < 5 := by
      have : ¬ hs0.length = 5 := fun q => h5 (by rw [q]; rfl)
      omega
    have hpsh : psh hs0 E = hs0 ++ [E] := by rw [psh, if_neg (by omega)]
    rw [hpsh] at hq
    iterate 2 refine hX ?_
    refine m_leaves2 hX (c := hs0.length) (pa := pa) h5' hr (fun pa2 b1 b2 => ?_) 49 0 rfl pa p1 (fun q => by rw [if_neg (by omega)])
    have hl : (hs0 ++ [E]).length = hs0.length + 1 := by rw [List.length_append, List.length_singleton]
    have := hq pa2 ⟨⟨b1, by omega, fun F hF => ?_⟩, fun i hi k hk => ?_⟩
    · rw [hl] at this
      exact this
    · rcases List.mem_append.mp hF with hF | hF
      · exact p3 F hF
      · rw [List.mem_singleton.mp hF]; exact hg
    · rw [hl] at hi
      by_cases e : i = hs0.length
      · subst e
        rw [b2, if_pos (by omega), getD_app2]
        congr 1
        omega
      · rw [b2, if_neg (by omega), getD_app1 (by omega)]
        exact p4 i (by omega) k hk
theorem m_back_loop (hX : Cl sc X) {c : Nat} (hc : c < 5) (hpa : pa.length = 245) (hq : ∀ nw', nw'.length = 49 → (∀ q, q < 49 → nw'.getD q 0 = pa.getD (49 * c + q) 0) → Q (some (.int (nI c))) (MW nw' fr pa (nI c) rf tx ln bo ss ai fi op dp wr wm f1 f2 pm ch sd sm pk sv sz vm hpz pl sg wt bu hsh)) :
    ∀ (n k : Nat), k + n = 49 → ∀ (p : List Int32), p.length = 49 → (∀ q, q < k → p.getD q 0 = pa.getD (49 * c + q) 0) → X B 128 24 [some (.ref 0), some (.int (nI k))] [] (MW p fr pa (nI c) rf tx ln bo ss ai fi op dp wr wm f1 f2 pm ch sd sm pk sv sz vm hpz pl sg wt bu hsh) Q := by
  intro n
  induction n with
  | zero =>
    intro k hk p h1 h2
    have : k = 49 := by omega
    subst this
    iterate 3 refine hX ?_
    refine And.intro (fun _ => ?_) (fun h => absurd ((nle (a := 49) (by omega) (by omega)).mpr (by omega)) h)
    repeat refine hX ?_
    exact hq p h1 h2
  | succ n ih =>
    intro k hk p h1 h2
    iterate 3 refine hX ?_
    refine And.intro (fun h => absurd ((nle (a := 49) (by omega) (by omega)).mp h) (by omega)) (fun _ => ?_)
    iterate 12 refine hX ?_
    rw [show (49 : Int32) * nI c + nI k = nI (49 * c + k) by rw [show (49 : Int32) = nI 49 from rfl, nmul, nadd]]
    refine And.intro (vp_in_nI (by omega) (by omega)) ?_
    refine hX ?_
    refine And.intro (vp_in_nI (by omega) (by omega)) ?_
    rw [nI_clamp (by omega), nI_clamp (by omega)]
    iterate 2 refine hX ?_
    rw [show nI k + 1 = nI (k + 1) from (nI_succ k).symm]
    refine ih (k + 1) (by omega) _ (by rw [List.length_set]; exact h1) (fun q hq2 => ?_)
    by_cases e : k = q
    · subst e
      rw [getD_set_eq (by omega)]
    · rw [getD_set_ne e, h2 q (by omega)]
theorem m_back (hX : Cl sc X) (hB : 1 ≤ B.1) {hs0 : List (List (List Int32))} (hn : nw.length = 49) (hr : rf.length = 3) (hP : paR hs0 pa) (hq0 : hs0.length = 0 → Q (some (.int (-3))) (MW nw fr pa (nI hs0.length) (bmp rf 1) tx ln bo ss ai fi op dp wr wm f1 f2 pm ch sd sm pk sv sz vm hpz pl sg wt bu hsh)) (hq1 : 0 < hs0.length → Q (some (.int (nI (hs0.length - 1)))) (MW (rowE (hs0.getD (hs0.length - 1) [])) fr pa (nI (hs0.length - 1)) rf tx ln bo ss ai fi op dp wr wm f1 f2 pm ch sd sm pk sv sz vm hpz pl sg wt bu hsh)) : X B 128 0 [some (.ref 0), none] [] (MW nw fr pa (nI hs0.length) rf tx ln bo ss ai fi op dp wr wm f1 f2 pm ch sd sm pk sv sz vm hpz pl sg wt bu hsh) Q := by
  obtain ⟨⟨p1, p2, p3⟩, p4⟩ := id hP
  iterate 3 refine hX ?_
  refine And.intro (fun h => ?_) (fun h => ?_)
  · have h0 : hs0.length = 0 := (neq (b := 0) (by omega) (by omega)).mp h
    iterate 2 refine hX ?_
    refine And.intro trivial (cDw [.ref 0] (some (.int (-3))) (MW nw fr pa (nI hs0.length) (bmp rf 1) tx ln bo ss ai fi op dp wr wm f1 f2 pm ch sd sm pk sv sz vm hpz pl sg wt bu hsh) hB rfl rfl rfl rfl rfl (fun Q' hQ' => m_no hX hr hQ') ?_)
    refine hX ?_
    exact hq0 h0
  · have h0 : 0 < hs0.length := by
      have : ¬ hs0.length = 0 := fun q => h (by rw [q]; rfl)
      omega
    iterate 6 refine hX ?_
    rw [show nI hs0.length - 1 = nI (hs0.length - 1) from nsub (b := 1) (by omega)]
    iterate 2 refine hX ?_
    refine m_back_loop hX (c := hs0.length - 1) (by omega) p1 (fun nw' a1 a2 => ?_) 49 0 rfl nw hn (fun q h => by omega)
    have hg := p3 _ (getD_mem (d := []) (show hs0.length - 1 < hs0.length by omega))
    have e : nw' = rowE (hs0.getD (hs0.length - 1) []) := by
      refine ext_getD 0 (by rw [a1, rowE_len hg]) (fun y => ?_)
      by_cases hy : y < 49
      · rw [a2 y hy, p4 _ (by omega) y hy]
      · rw [getD_out (by omega), getD_out (by rw [rowE_len hg]; omega)]
    rw [e]
    exact hq1 h0
theorem m_type (hX : Cl sc X) (hB : 1 ≤ B.1) {t : List Int32} (hT : txR t tx ln) (hr : rf.length = 3) {c : Int32} (hq0 : (c < 0 ∨ 127 < c) → Q (some (.int (-2))) (MW nw fr pa st (bmp rf 0) tx ln bo ss ai fi op dp wr wm f1 f2 pm ch sd sm pk sv sz vm hpz pl sg wt bu hsh)) (hq1 : ¬ (c < 0 ∨ 127 < c) → t.length = 120 → Q (some (.int (-4))) (MW nw fr pa st (bmp rf 2) tx ln bo ss ai fi op dp wr wm f1 f2 pm ch sd sm pk sv sz vm hpz pl sg wt bu hsh)) (hq2 : ¬ (c < 0 ∨ 127 < c) → t.length < 120 → Q (some (.int (nI (t.length + 1)))) (MW nw fr pa st rf (tx.set t.length c) (nI (t.length + 1)) bo ss ai fi op dp wr wm f1 f2 pm ch sd sm pk sv sz vm hpz pl sg wt bu hsh)) : X B 129 0 [some (.ref 0), some (.int c)] [] (MW nw fr pa st rf tx ln bo ss ai fi op dp wr wm f1 f2 pm ch sd sm pk sv sz vm hpz pl sg wt bu hsh) Q := by
  obtain ⟨t1, t2, t3, rfl⟩ := hT
  iterate 4 refine hX ?_
  refine cP [] [.int c, .int 0, .int 127] [] (some (.int (wiI c 0 127))) [.int (wiI c 0 127)] hB rfl rfl rfl rfl (fun Q' hQ' => m_within hX hQ') ?_
  by_cases hc : c < 0 ∨ 127 < c
  · rw [wiI, if_neg (fun q => hc.elim (Int32.not_lt.mpr q.1) (Int32.not_lt.mpr q.2))]
    refine hX (And.intro (fun _ => ?_) (fun h => absurd rfl h))
    iterate 2 refine hX ?_
    refine And.intro trivial (cDw [.ref 0] (some (.int (-2))) (MW nw fr pa st (bmp rf 0) tx (nI t.length) bo ss ai fi op dp wr wm f1 f2 pm ch sd sm pk sv sz vm hpz pl sg wt bu hsh) hB rfl rfl rfl rfl rfl (fun Q' hQ' => m_bad hX hr hQ') ?_)
    refine hX ?_
    exact hq0 hc
  · have hc' := not_or.mp hc
    rw [wiI, if_pos ⟨Int32.not_lt.mp hc'.1, Int32.not_lt.mp hc'.2⟩]
    refine hX (And.intro (fun h => absurd h (by decide)) (fun _ => ?_))
    iterate 4 refine hX ?_
    refine And.intro (fun h => ?_) (fun h => ?_)
    · iterate 2 refine hX ?_
      refine And.intro trivial (cDw [.ref 0] (some (.int (-4))) (MW nw fr pa st (bmp rf 2) tx (nI t.length) bo ss ai fi op dp wr wm f1 f2 pm ch sd sm pk sv sz vm hpz pl sg wt bu hsh) hB rfl rfl rfl rfl rfl (fun Q' hQ' => m_full hX hr hQ') ?_)
      refine hX ?_
      exact hq1 hc ((neq (b := 120) (by omega) (by omega)).mp h)
    · have hl : t.length < 120 := by
        have : ¬ t.length = 120 := fun q => h (by rw [q]; rfl)
        omega
      iterate 6 refine hX ?_
      refine And.intro (vp_in_nI (by omega) (by omega)) ?_
      rw [nI_clamp (by omega)]
      iterate 9 refine hX ?_
      rw [show nI t.length + 1 = nI (t.length + 1) from (nI_succ _).symm]
      exact hq2 hc hl
theorem m_clear (hX : Cl sc X) (hq : Q (some (.int ln)) (MW nw fr pa st rf tx 0 bo ss ai fi op dp wr wm f1 f2 pm ch sd sm pk sv sz vm hpz pl sg wt bu hsh)) : X B 130 0 [some (.ref 0), none] [] (MW nw fr pa st rf tx ln bo ss ai fi op dp wr wm f1 f2 pm ch sd sm pk sv sz vm hpz pl sg wt bu hsh) Q := by
  repeat refine hX ?_
  exact hq
end MB
