/-! The model: an equation, all of THE TEXT, reads. -/
theorem frR_two {E0 : List (List Int32)} {u v lt fr : List Int32} (h : frR E0 lt fr) (h6 : E0.length ≤ 6) : frR (E0 ++ [u] ++ [v]) lt (((fr.set (E0.length + 1) (nI u.length)).set (E0.length + 2) (nI v.length)).set 0 (nI (E0.length / 2 + 1))) := by
  obtain ⟨⟨h1, h2, h3⟩, h4, h5, h7⟩ := h
  have hl : (E0 ++ [u] ++ [v]).length = E0.length + 2 := by rw [List.length_append, List.length_append]; rfl
  refine ⟨⟨by rw [List.length_set, List.length_set, List.length_set]; exact h1, h2, by omega⟩, ?_, fun k hk => ?_, fun k hk => ?_⟩
  · rw [getD_set_eq (by rw [List.length_set, List.length_set]; omega), hl]
    congr 1
    omega
  · rw [getD_set_ne (by omega)]
    by_cases e1 : E0.length + 2 = k + 1
    · rw [← e1, getD_set_eq (by rw [List.length_set]; omega), show k = (E0 ++ [u]).length by rw [List.length_append]; simp; omega, getD_app2]
    · rw [getD_set_ne e1]
      by_cases e2 : E0.length + 1 = k + 1
      · rw [← e2, getD_set_eq (by omega), getD_app1 (by rw [List.length_append, List.length_singleton]; omega), show k = E0.length by omega, getD_app2]
      · rw [getD_set_ne e2, h5 k hk]
        by_cases e3 : k < E0.length
        · rw [getD_app1 (by rw [List.length_append]; omega), getD_app1 e3]
        · rw [getD_out (l := E0) (by omega), getD_out (l := E0 ++ [u] ++ [v]) (by omega)]
  · rw [getD_set_ne (by omega), getD_set_ne (by omega), getD_set_ne (by omega)]
    exact h7 k hk
theorem parse01 {t : List Int32} {i : Nat} {E : List (List Int32)} (h1 : i < t.length) (h2 : ¬ t.getD i 0 = 32) : parse (t.drop i) i (E, [], [], 0) = parse (t.drop i) i (E, [], [], 1) := by
  rw [drop_cons h1, parse, if_neg h2, parse, if_neg h2, pst1 E [] [] (Nat.zero_le 1), pst1 E [] [] (Nat.le_refl 1)]
theorem pInv01 {E : List (List Int32)} (h : pInv (E, [], [], 0)) : pInv (E, [], [], 1) := by
  obtain ⟨⟨h1, h2, h3, h4⟩, h5, h6, h7, h8, h9, h10⟩ := h
  exact ⟨⟨h1, h2, h3, by omega⟩, h5, h6, h7, h8, fun q => by omega, fun q => by omega⟩
theorem flat_one (E : List (List Int32)) (u : List Int32) : (E ++ [u]).flatten = E.flatten ++ u := by
  rw [List.flatten_append]; simp
/-- the outcome of an equation -/
def reO (R : Nat ⊕ List (List Int32)) (t : List Int32) (r : Int32) (j : Nat) (E : List (List Int32)) (fr op : List Int32) (fi : Int32) : Prop := (j ≤ t.length ∧ op.length = 41 ∧ fr.length = 49) ∧ ((r = 0 ∧ R = .inl j) ∨ (r = 1 ∧ parse (t.drop j) j (E, [], [], 0) = R ∧ pInv (E, [], [], 0) ∧ frR E E.flatten fr ∧ fi = nI E.flatten.length))
section ME
variable {sc : List Int32} {X : pX} {B : pB} {Q : pQ} {nw fr pa rf tx bo ss op wr f1 f2 ch sd pk sv sz hpz pl sg bu : List Int32} {st ln ai fi dp wm pm sm vm wt : Int32} {hsh : Int64}
theorem m_readsEquation (hX : Cl sc X) (hB : 8 ≤ B.1) {t : List Int32} (hT : txR t tx ln) {R : Nat ⊕ List (List Int32)} {E0 : List (List Int32)} {i : Nat} (hi : i < t.length) (hh : ¬ t.getD i 0 = 32) (hR : parse (t.drop i) i (E0, [], [], 0) = R) (hI : pInv (E0, [], [], 0)) (ho : op.length = 41) (hF : frR E0 E0.flatten fr) (hq : ∀ r j E' fr' op' dp' fi', (r = 1 → i < j) → reO R t r j E' fr' op' fi' → Q (some (.int r)) (MW nw fr' pa st rf tx ln bo ss (nI j) fi' op' dp' wr wm f1 f2 pm ch sd sm pk sv sz vm hpz pl sg wt bu hsh)) : X B 136 0 [some (.ref 0), none, none] [] (MW nw fr pa st rf tx ln bo ss (nI i) (nI E0.flatten.length) op dp wr wm f1 f2 pm ch sd sm pk sv sz vm hpz pl sg wt bu hsh) Q := by
  obtain ⟨-, -, hev⟩ := hI.2.2.2.2.2.2 rfl
  have h8 := hF.1.2.2
  have hf0 := hF.2.1
  have hfl := hF.1.1
  have h40 := hF.1.2.1
  have hskp : skp t i = i := by rw [skp, drop_cons hi, bl, if_neg hh]; rfl
  iterate 4 refine hX ?_
  refine And.intro (vp_in_nI (n := 0) (by omega) (by omega)) ?_
  rw [show Int32.toNatClampNeg 0 = 0 from rfl, hf0]
  iterate 2 refine hX ?_
  refine And.intro (fun h => ?_) (fun h => ?_)
  · have h4 : E0.length / 2 = 4 := (neq (b := 4) (by omega) (by omega)).mp h
    iterate 2 refine hX ?_
    refine And.intro (Or.inl rfl) (hq 0 i [] fr op dp _ (fun q => by cases q) ⟨⟨by omega, ho, hfl⟩, Or.inl ⟨rfl, ?_⟩⟩)
    rw [drop_cons hi, parse, if_neg hh, pst1 E0 [] [] (Nat.zero_le 1), if_pos (Or.inr (Or.inl (by omega)))] at hR
    exact hR.symm
  have h6 : E0.length ≤ 6 := by
    have : ¬ E0.length / 2 = 4 := fun q => h (by rw [q]; rfl)
    omega
  rw [parse01 hi hh] at hR
  iterate 5 refine hX ?_
  refine And.intro trivial (cMw [.ref 0] (fun u : Int32 × Nat × List Int32 × List Int32 × List Int32 × Int32 × Int32 => i ≤ u.2.1 ∧ rtO R t E0 E0 u.1 u.2.1 u.2.2.1 u.2.2.2.1 u.2.2.2.2.1 u.2.2.2.2.2.2) (fun u => some (.int u.1)) (fun u => (MW nw u.2.2.2.1 pa st rf tx ln bo ss (nI u.2.1) u.2.2.2.2.2.2 u.2.2.2.2.1 u.2.2.2.2.2.1 wr wm f1 f2 pm ch sd sm pk sv sz vm hpz pl sg wt bu hsh)) (by omega) rfl rfl (fun _ => rfl) (fun _ => rfl) (fun _ => rfl) (fun Q' hQ' => m_readsTerm hX (by show 6 ≤ B.1 - 1; omega) hT (by omega) (by omega) hR (pInv01 hI) ho hF (fun r j cur' fr' op' dp' fi' a b => hQ' (r, j, cur', fr', op', dp', fi') ⟨a, b⟩)) ?_)
  rintro ⟨r, j, u, fr1, op1, dp1, fi1⟩ hu
  dsimp only at hu ⊢
  obtain ⟨hij, ⟨o1, o2, o3⟩, o4⟩ := hu
  rcases o4 with ⟨rfl, o4⟩ | ⟨rfl, o4, o5, o6, rfl⟩
  · refine hX (And.intro (fun _ => ?_) (fun h => absurd rfl h))
    iterate 2 refine hX ?_
    exact And.intro (Or.inl rfl) (hq 0 j [] fr1 op1 dp1 fi1 (fun q => by cases q) ⟨⟨o1, o2, o3⟩, Or.inl ⟨rfl, o4⟩⟩)
  refine hX (And.intro (fun h => absurd h (by decide)) (fun _ => ?_))
  iterate 3 refine hX ?_
  have hk := skp_le o1
  refine And.intro trivial (cMw [.ref 0, .int 61] (fun w : Int32 × Nat => (w.1 = 1 ∧ w.2 = skp t j + 1 ∧ skp t j < t.length ∧ t.getD (skp t j) 0 = 61) ∨ (w.1 = 0 ∧ w.2 = skp t j ∧ ¬ (skp t j < t.length ∧ t.getD (skp t j) 0 = 61))) (fun w => some (.int w.1)) (fun w => (MW nw fr1 pa st rf tx ln bo ss (nI w.2) (nI (E0.flatten ++ u).length) op1 dp1 wr wm f1 f2 pm ch sd sm pk sv sz vm hpz pl sg wt bu hsh)) (by omega) rfl rfl (fun _ => rfl) (fun _ => rfl) (fun _ => rfl) (fun Q' hQ' => m_passes hX (by show 1 ≤ B.1 - 1; omega) hT o1 (fun a b => hQ' (1, _) (Or.inl ⟨rfl, rfl, a, b⟩)) (fun a => hQ' (0, _) (Or.inr ⟨rfl, rfl, a⟩))) ?_)
  rintro ⟨r, j2⟩ hw
  dsimp only at hw ⊢
  rcases hw with ⟨rfl, rfl, w1, w2⟩ | ⟨rfl, rfl, w1⟩
  case inr =>
    refine hX (And.intro (fun _ => ?_) (fun h => absurd rfl h))
    iterate 2 refine hX ?_
    exact And.intro (Or.inl rfl) (hq 0 _ [] _ _ _ _ (fun q => by cases q) ⟨⟨by omega, o2, o3⟩, Or.inl ⟨rfl, pass0 o1 o4 (show ¬ 3 = 0 by decide) (fun a => by rw [pst3n, if_pos hev, if_neg (fun b => w1 ⟨a, b⟩)])⟩⟩)
  have hs1 : pst (E0, u, [], 3) (t.getD (skp t j) 0) = some (E0 ++ [u], [], [], 1) := by rw [pst3n, if_pos hev, if_pos w2]
  have hI1 := pInv_step o5 hs1
  have hR1 := pass1 o4 w1 hs1
  have hi1 : skp t j + 1 ≤ t.length := by omega
  rw [← flat_one] at o6 ⊢
  have hl1 : (E0 ++ [u]).length = E0.length + 1 := by rw [List.length_append, List.length_singleton]
  refine hX (And.intro (fun h => absurd h (by decide)) (fun _ => ?_))
  generalize hi' : skp t j + 1 = i1 at hR1 hi1
  iterate 5 refine hX ?_
  refine And.intro trivial (cMw [.ref 0] (fun u2 : Int32 × Nat × List Int32 × List Int32 × List Int32 × Int32 × Int32 => i1 ≤ u2.2.1 ∧ rtO R t E0 (E0 ++ [u]) u2.1 u2.2.1 u2.2.2.1 u2.2.2.2.1 u2.2.2.2.2.1 u2.2.2.2.2.2.2) (fun u2 => some (.int u2.1)) (fun u2 => (MW nw u2.2.2.2.1 pa st rf tx ln bo ss (nI u2.2.1) u2.2.2.2.2.2.2 u2.2.2.2.2.1 u2.2.2.2.2.2.1 wr wm f1 f2 pm ch sd sm pk sv sz vm hpz pl sg wt bu hsh)) (by omega) rfl rfl (fun _ => rfl) (fun _ => rfl) (fun _ => rfl) (fun Q' hQ' => m_readsTerm hX (by show 6 ≤ B.1 - 1; omega) hT (by omega) hi1 hR1 hI1 o2 o6 (fun r j cur' fr' op' dp' fi' a b => hQ' (r, j, cur', fr', op', dp', fi') ⟨a, b⟩)) ?_)
  rintro ⟨r, j3, v, fr2, op2, dp2, fi2⟩ hu
  dsimp only at hu ⊢
  obtain ⟨hij2, ⟨q1, q2, q3⟩, q4⟩ := hu
  rcases q4 with ⟨rfl, q4⟩ | ⟨rfl, q4, q5, q6, rfl⟩
  · refine hX (And.intro (fun _ => ?_) (fun h => absurd rfl h))
    iterate 2 refine hX ?_
    exact And.intro (Or.inl rfl) (hq 0 j3 [] fr2 op2 dp2 fi2 (fun q => by cases q) ⟨⟨q1, q2, q3⟩, Or.inl ⟨rfl, q4⟩⟩)
  refine hX (And.intro (fun h => absurd h (by decide)) (fun _ => ?_))
  iterate 3 refine hX ?_
  have hk2 := skp_le q1
  refine And.intro trivial (cMw [.ref 0, .int 59] (fun w : Int32 × Nat => (w.1 = 1 ∧ w.2 = skp t j3 + 1 ∧ skp t j3 < t.length ∧ t.getD (skp t j3) 0 = 59) ∨ (w.1 = 0 ∧ w.2 = skp t j3 ∧ ¬ (skp t j3 < t.length ∧ t.getD (skp t j3) 0 = 59))) (fun w => some (.int w.1)) (fun w => (MW nw fr2 pa st rf tx ln bo ss (nI w.2) (nI ((E0 ++ [u]).flatten ++ v).length) op2 dp2 wr wm f1 f2 pm ch sd sm pk sv sz vm hpz pl sg wt bu hsh)) (by omega) rfl rfl (fun _ => rfl) (fun _ => rfl) (fun _ => rfl) (fun Q' hQ' => m_passes hX (by show 1 ≤ B.1 - 1; omega) hT q1 (fun a b => hQ' (1, _) (Or.inl ⟨rfl, rfl, a, b⟩)) (fun a => hQ' (0, _) (Or.inr ⟨rfl, rfl, a⟩))) ?_)
  rintro ⟨r, j4⟩ hw
  dsimp only at hw ⊢
  have hodd : ¬ (E0 ++ [u]).length % 2 = 0 := by omega
  rcases hw with ⟨rfl, rfl, w3, w4⟩ | ⟨rfl, rfl, w3⟩
  case inr =>
    refine hX (And.intro (fun _ => ?_) (fun h => absurd rfl h))
    iterate 2 refine hX ?_
    exact And.intro (Or.inl rfl) (hq 0 _ [] _ _ _ _ (fun q => by cases q) ⟨⟨by omega, q2, q3⟩, Or.inl ⟨rfl, pass0 q1 q4 (show ¬ 3 = 0 by decide) (fun a => by rw [pst3n, if_neg hodd, if_neg (fun b => w3 ⟨a, b⟩)])⟩⟩)
  have hs2 : pst (E0 ++ [u], v, [], 3) (t.getD (skp t j3) 0) = some (E0 ++ [u] ++ [v], [], [], 0) := by rw [pst3n, if_neg hodd, if_pos w4]
  have hI2 := pInv_step q5 hs2
  have hR2 := pass1 q4 w3 hs2
  have hF3 := frR_two (u := u) (v := v) q6 h6
  rw [← flat_one] at q6 hF3 ⊢
  have hg0 := q6.2.1
  have hl40 := q6.1.2.1
  have hfl2 := q6.1.1
  have hlu : (E0 ++ [u]).flatten.length = E0.flatten.length + u.length := by rw [flat_one, List.length_append]
  have hlv : (E0 ++ [u] ++ [v]).flatten.length = (E0 ++ [u]).flatten.length + v.length := by rw [flat_one (E0 ++ [u]), List.length_append]
  refine hX (And.intro (fun h => absurd h (by decide)) (fun _ => ?_))
  iterate 8 refine hX ?_
  refine And.intro (vp_in_nI (n := 0) (by omega) (by omega)) ?_
  rw [show Int32.toNatClampNeg 0 = 0 from rfl, hg0]
  iterate 6 refine hX ?_
  have e1 : (1 : Int32) + 2 * nI (E0.length / 2) = nI (E0.length + 1) := by
    rw [show (1 : Int32) = nI 1 from rfl, show (2 : Int32) = nI 2 from rfl, nmul, nadd]; congr 1; omega
  rw [e1, nsub (by omega), show (E0 ++ [u]).flatten.length - E0.flatten.length = u.length by omega]
  refine And.intro (vp_in_nI (by omega) (by omega)) ?_
  rw [nI_clamp (by omega)]
  iterate 8 refine hX ?_
  refine And.intro (vp_in_nI (n := 0) (by rw [List.length_set]; omega) (by rw [List.length_set]; omega)) ?_
  rw [show Int32.toNatClampNeg 0 = 0 from rfl, getD_set_ne (by omega), hg0]
  iterate 9 refine hX ?_
  rw [e1, show nI (E0.length + 1) + 1 = nI (E0.length + 2) from (nI_succ _).symm, nsub (by omega), show (E0 ++ [u] ++ [v]).flatten.length - (E0 ++ [u]).flatten.length = v.length by omega]
  refine And.intro (vp_in_nI (by rw [List.length_set]; omega) (by rw [List.length_set]; omega)) ?_
  rw [nI_clamp (by omega)]
  iterate 5 refine hX ?_
  refine And.intro (vp_in_nI (n := 0) (by rw [List.length_set, List.length_set]; omega) (by rw [List.length_set, List.length_set]; omega)) ?_
  rw [show Int32.toNatClampNeg 0 = 0 from rfl, getD_set_ne (by omega), getD_set_ne (by omega), hg0]
  iterate 3 refine hX ?_
  refine And.intro (vp_in_nI (n := 0) (by rw [List.length_set, List.length_set]; omega) (by rw [List.length_set, List.length_set]; omega)) ?_
  rw [show Int32.toNatClampNeg 0 = 0 from rfl, show nI (E0.length / 2) + 1 = nI (E0.length / 2 + 1) from (nI_succ _).symm]
  iterate 2 refine hX ?_
  exact And.intro (Or.inr rfl) (hq 1 _ (E0 ++ [u] ++ [v]) _ _ _ _ (fun _ => by omega) ⟨⟨by omega, q2, hF3.1.1⟩, Or.inr ⟨rfl, hR2, hI2, hF3, rfl⟩⟩)
theorem m_isRead_zero (hX : Cl sc X) (hq : ∀ fr', frR [] [] fr' → X B 137 21 [some (.ref 0), some (.int (nI 49))] [] (MW nw fr' pa st rf tx ln bo ss ai fi op dp wr wm f1 f2 pm ch sd sm pk sv sz vm hpz pl sg wt bu hsh) Q) : ∀ (n k : Nat), k + n = 49 → ∀ (f : List Int32), f.length = 49 → (∀ q, q < k → f.getD q 0 = 0) → X B 137 2 [some (.ref 0), some (.int (nI k))] [] (MW nw f pa st rf tx ln bo ss ai fi op dp wr wm f1 f2 pm ch sd sm pk sv sz vm hpz pl sg wt bu hsh) Q := by
  intro n
  induction n with
  | zero =>
    intro k hk f h1 h2
    have : k = 49 := by omega
    subst this
    iterate 3 refine hX ?_
    refine And.intro (fun _ => ?_) (fun h => absurd ((nle (a := 49) (by omega) (by omega)).mpr (by omega)) h)
    exact hq f ⟨⟨h1, by simp, by simp⟩, h2 0 (by omega), fun k hk => by rw [h2 _ (by omega)]; rfl, fun k hk => by rw [h2 _ (by omega)]; rfl⟩
  | succ n ih =>
    intro k hk f h1 h2
    iterate 3 refine hX ?_
    refine And.intro (fun h => absurd ((nle (a := 49) (by omega) (by omega)).mp h) (by omega)) (fun _ => ?_)
    iterate 5 refine hX ?_
    refine And.intro (vp_in_nI (by omega) (by omega)) ?_
    rw [nI_clamp (by omega)]
    iterate 2 refine hX ?_
    rw [show nI k + 1 = nI (k + 1) from (nI_succ k).symm]
    refine ih (k + 1) (by omega) _ (by rw [List.length_set]; exact h1) (fun q hq2 => ?_)
    by_cases e : k = q
    · subst e
      rw [getD_set_eq (by omega)]
    · rw [getD_set_ne e, h2 q (by omega)]
theorem m_isRead_loop (hX : Cl sc X) (hB : 9 ≤ B.1) {t : List Int32} (hT : txR t tx ln) {R : Nat ⊕ List (List Int32)} {l1 : Option Value} (hq0 : ∀ j fr' op' dp' fi', R = .inl j → j ≤ t.length → fr'.length = 49 → op'.length = 41 → Q (some (.int 0)) (MW nw fr' pa st rf tx ln bo ss (nI j) fi' op' dp' wr wm f1 f2 pm ch sd sm pk sv sz vm hpz pl sg wt bu hsh)) (hq1 : ∀ j E fr' op' dp' fi', R = .inr E → pInv (E, [], [], 0) → frR E E.flatten fr' → op'.length = 41 → Q (some (.int 1)) (MW nw fr' pa st rf tx ln bo ss (nI j) fi' op' dp' wr wm f1 f2 pm ch sd sm pk sv sz vm hpz pl sg wt bu hsh)) : ∀ (m i : Nat) (E : List (List Int32)) (fr op : List Int32) (dp : Int32), t.length - i ≤ m → i ≤ t.length → (i < t.length → ¬ t.getD i 0 = 32) → parse (t.drop i) i (E, [], [], 0) = R → pInv (E, [], [], 0) → op.length = 41 → frR E E.flatten fr → X B 137 35 [some (.ref 0), l1] [] (MW nw fr pa st rf tx ln bo ss (nI i) (nI E.flatten.length) op dp wr wm f1 f2 pm ch sd sm pk sv sz vm hpz pl sg wt bu hsh) Q := by
  have ht := hT.1
  have hln := hT.2.2.2
  intro m
  induction m with
  | zero =>
    intro i E fr op dp hm hi hh hR hI ho hF
    have hit : i = t.length := by omega
    iterate 5 refine hX ?_
    rw [hln]
    refine And.intro (fun _ => ?_) (fun h => absurd ((nle (by omega) (by omega)).mpr (by omega)) h)
    iterate 2 refine hX ?_
    rw [← hln]
    refine And.intro (Or.inr rfl) (hq1 i E fr op dp _ ?_ hI hF ho)
    rw [hit, List.drop_length, parse, if_pos rfl] at hR
    exact hR.symm
  | succ m ih =>
    intro i E fr op dp hm hi hh hR hI ho hF
    iterate 5 refine hX ?_
    rw [hln]
    by_cases hit : t.length ≤ i
    · refine And.intro (fun _ => ?_) (fun h => absurd ((nle (by omega) (by omega)).mpr (by omega)) h)
      iterate 2 refine hX ?_
      rw [← hln]
      refine And.intro (Or.inr rfl) (hq1 i E fr op dp _ ?_ hI hF ho)
      rw [List.drop_eq_nil_of_le hit, parse, if_pos rfl] at hR
      exact hR.symm
    · refine And.intro (fun h => absurd ((nle (by omega) (by omega)).mp h) hit) (fun _ => ?_)
      rw [← hln]
      iterate 2 refine hX ?_
      refine And.intro trivial (cMw [.ref 0] (fun u : Int32 × Nat × List (List Int32) × List Int32 × List Int32 × Int32 × Int32 => (u.1 = 1 → i < u.2.1) ∧ reO R t u.1 u.2.1 u.2.2.1 u.2.2.2.1 u.2.2.2.2.1 u.2.2.2.2.2.2) (fun u => some (.int u.1)) (fun u => (MW nw u.2.2.2.1 pa st rf tx ln bo ss (nI u.2.1) u.2.2.2.2.2.2 u.2.2.2.2.1 u.2.2.2.2.2.1 wr wm f1 f2 pm ch sd sm pk sv sz vm hpz pl sg wt bu hsh)) (by omega) rfl rfl (fun _ => rfl) (fun _ => rfl) (fun _ => rfl) (fun Q' hQ' => m_readsEquation hX (by show 8 ≤ B.1 - 1; omega) hT (by omega) (hh (by omega)) hR hI ho hF (fun r j E' fr' op' dp' fi' a b => hQ' (r, j, E', fr', op', dp', fi') ⟨a, b⟩)) ?_)
      rintro ⟨r, j, E', fr', op', dp', fi'⟩ hu
      dsimp only at hu ⊢
      obtain ⟨hij, ⟨o1, o2, o3⟩, o4⟩ := hu
      rcases o4 with ⟨rfl, o4⟩ | ⟨rfl, o4, o5, o6, rfl⟩
      · refine hX (And.intro (fun _ => ?_) (fun h => absurd rfl h))
        iterate 2 refine hX ?_
        exact And.intro (Or.inl rfl) (hq0 j fr' op' dp' fi' o4 o1 o3 o2)
      · have hij2 := hij rfl
        refine hX (And.intro (fun h => absurd h (by decide)) (fun _ => ?_))
        iterate 2 refine hX ?_
        refine c_blanks hX (by omega) hT o1 ?_
        have hk := skp_le o1
        refine hX ?_
        exact ih (skp t j) E' fr' op' dp' (by omega) hk.2 skp_head (by rw [← skp_parse]; exact o4) o5 o2 o6
theorem m_isRead (hX : Cl sc X) (hB : 9 ≤ B.1) {t : List Int32} (hT : txR t tx ln) (hfl : fr.length = 49) (ho : op.length = 41) (hq0 : ∀ j fr' op' dp' fi', parse t 0 ([], [], [], 0) = .inl j → j ≤ t.length → fr'.length = 49 → op'.length = 41 → Q (some (.int 0)) (MW nw fr' pa st rf tx ln bo ss (nI j) fi' op' dp' wr wm f1 f2 pm ch sd sm pk sv sz vm hpz pl sg wt bu hsh)) (hq1 : ∀ j E op' dp' fi', parse t 0 ([], [], [], 0) = .inr E → gE E → op'.length = 41 → Q (some (.int 1)) (MW nw (rowE E) pa st rf tx ln bo ss (nI j) fi' op' dp' wr wm f1 f2 pm ch sd sm pk sv sz vm hpz pl sg wt bu hsh)) : X B 137 0 [some (.ref 0), none] [] (MW nw fr pa st rf tx ln bo ss ai fi op dp wr wm f1 f2 pm ch sd sm pk sv sz vm hpz pl sg wt bu hsh) Q := by
  iterate 2 refine hX ?_
  refine m_isRead_zero hX (fun fr' hF => ?_) 49 0 rfl fr hfl (fun q h => by omega)
  iterate 8 refine hX ?_
  refine c_blanks (i := 0) hX (by omega) hT (Nat.zero_le _) ?_
  have hk := skp_le (t := t) (Nat.zero_le _)
  refine m_isRead_loop hX hB hT (R := parse t 0 ([], [], [], 0)) hq0 (fun j E fr2 op2 dp2 fi2 a1 a2 a3 a4 => ?_) _ (skp t 0) [] fr' op dp (Nat.le_refl _) hk.2 skp_head (by rw [← skp_parse]; rfl) ?_ ho hF
  · have hg : gE E := by
      obtain ⟨⟨b1, b2, b3, b4⟩, b5, b6, b7, b8, b9, b10⟩ := a2
      exact ⟨⟨b1, by simpa using b2, (b10 rfl).2.2⟩, b5, parse_letters t 0 ([], [], [], 0) (fun d hd => by simp at hd) E a1⟩
    rw [row_ext hg a3.1.1 a3.2.1 a3.2.2.1 a3.2.2.2]
    exact hq1 j E op2 dp2 fi2 a1 hg a4
  · exact ⟨⟨by simp, by simp, by simp, by omega⟩, fun t ht => by simp at ht, fun p hp => by simp at hp, fun r hr => hr, fun h => by simp at h, fun h => by omega, fun _ => ⟨rfl, rfl, rfl⟩⟩
theorem m_reads_loop (hX : Cl sc X) {E : List (List Int32)} (hg : gE E) (hq : Q (some (.int (nI (E.length / 2)))) (MW (rowE E) (rowE E) pa st rf tx ln bo ss ai fi op dp wr wm f1 f2 pm ch sd sm pk sv sz vm hpz pl sg wt bu hsh)) : ∀ (n k : Nat), k + n = 49 → ∀ (f : List Int32), f.length = 49 → (∀ q, q < k → f.getD q 0 = (rowE E).getD q 0) → X B 138 21 [some (.ref 0), some (.int (nI k))] [] (MW f (rowE E) pa st rf tx ln bo ss ai fi op dp wr wm f1 f2 pm ch sd sm pk sv sz vm hpz pl sg wt bu hsh) Q := by
  have hl := rowE_len hg
  intro n
  induction n with
  | zero =>
    intro k hk f h1 h2
    have : k = 49 := by omega
    subst this
    have hf : f = rowE E := by
      refine ext_getD 0 (by omega) (fun y => ?_)
      by_cases hy : y < 49
      · exact h2 y hy
      · rw [getD_out (by omega), getD_out (by omega)]
    subst hf
    iterate 3 refine hX ?_
    refine And.intro (fun _ => ?_) (fun h => absurd ((nle (a := 49) (by omega) (by omega)).mpr (by omega)) h)
    iterate 4 refine hX ?_
    refine And.intro (vp_in_nI (n := 0) (by omega) (by omega)) ?_
    refine hX ?_
    exact hq
  | succ n ih =>
    intro k hk f h1 h2
    iterate 3 refine hX ?_
    refine And.intro (fun h => absurd ((nle (a := 49) (by omega) (by omega)).mp h) (by omega)) (fun _ => ?_)
    iterate 7 refine hX ?_
    refine And.intro (vp_in_nI (by omega) (by omega)) ?_
    refine hX ?_
    refine And.intro (vp_in_nI (by omega) (by omega)) ?_
    rw [nI_clamp (by omega)]
    iterate 2 refine hX ?_
    rw [show nI k + 1 = nI (k + 1) from (nI_succ k).symm]
    refine ih (k + 1) (by omega) _ (by rw [List.length_set]; exact h1) (fun q hq2 => ?_)
    by_cases e : k = q
    · subst e
      rw [getD_set_eq (by omega)]
    · rw [getD_set_ne e, h2 q (by omega)]
theorem m_reads (hX : Cl sc X) (hB : 10 ≤ B.1) {t : List Int32} (hT : txR t tx ln) (hfl : fr.length = 49) (ho : op.length = 41) {hs0 : List (List (List Int32))} {E : List (List Int32)} (hg : gE E) (hP : paR hs0 pa) (hq0 : ∀ j fr' op' ai' dp' fi', parse t 0 ([], [], [], 0) = .inl j → fr'.length = 49 → op'.length = 41 → Q (some (.int (-10 - nI j))) (MW (rowE E) fr' pa (nI hs0.length) rf tx ln bo ss ai' fi' op' dp' wr wm f1 f2 pm ch sd sm pk sv sz vm hpz pl sg wt bu hsh)) (hq1 : ∀ E' pa' fr' op' ai' dp' fi', parse t 0 ([], [], [], 0) = .inr E' → gE E' → paR (psh hs0 E) pa' → fr'.length = 49 → op'.length = 41 → Q (some (.int (nI (E'.length / 2)))) (MW (rowE E') fr' pa' (nI (psh hs0 E).length) rf tx ln bo ss ai' fi' op' dp' wr wm f1 f2 pm ch sd sm pk sv sz vm hpz pl sg wt bu hsh)) : X B 138 0 [some (.ref 0), none] [] (MW (rowE E) fr pa (nI hs0.length) rf tx ln bo ss ai fi op dp wr wm f1 f2 pm ch sd sm pk sv sz vm hpz pl sg wt bu hsh) Q := by
  iterate 2 refine hX ?_
  refine And.intro trivial (cMw [.ref 0] (fun u : Int32 × Nat × List (List Int32) × List Int32 × List Int32 × Int32 × Int32 => u.2.2.2.2.1.length = 41 ∧ ((u.1 = 0 ∧ parse t 0 ([], [], [], 0) = .inl u.2.1 ∧ u.2.2.2.1.length = 49) ∨ (u.1 = 1 ∧ parse t 0 ([], [], [], 0) = .inr u.2.2.1 ∧ gE u.2.2.1 ∧ u.2.2.2.1 = rowE u.2.2.1))) (fun u => some (.int u.1)) (fun u => (MW (rowE E) u.2.2.2.1 pa (nI hs0.length) rf tx ln bo ss (nI u.2.1) u.2.2.2.2.2.2 u.2.2.2.2.1 u.2.2.2.2.2.1 wr wm f1 f2 pm ch sd sm pk sv sz vm hpz pl sg wt bu hsh)) (by omega) rfl rfl (fun _ => rfl) (fun _ => rfl) (fun _ => rfl) (fun Q' hQ' => m_isRead hX (by show 9 ≤ B.1 - 1; omega) hT hfl ho (fun j fr' op' dp' fi' a b c d => hQ' (0, j, [], fr', op', dp', fi') ⟨d, Or.inl ⟨rfl, a, c⟩⟩) (fun j E op' dp' fi' a b c => hQ' (1, j, E, _, op', dp', fi') ⟨c, Or.inr ⟨rfl, a, b, rfl⟩⟩)) ?_)
  rintro ⟨r, j, E', fr', op', dp', fi'⟩ hu
  dsimp only at hu ⊢
  obtain ⟨u1, u2⟩ := hu
  rcases u2 with ⟨rfl, u2, u3⟩ | ⟨rfl, u2, u3, rfl⟩
  · refine hX (And.intro (fun _ => ?_) (fun h => absurd rfl h))
    iterate 5 refine hX ?_
    exact hq0 j fr' op' _ dp' fi' u2 u3 u1
  · refine hX (And.intro (fun h => absurd h (by decide)) (fun _ => ?_))
    iterate 2 refine hX ?_
    refine And.intro trivial (cMw [.ref 0] (fun p : List Int32 => paR (psh hs0 E) p) (fun _ => none) (fun p => (MW (rowE E) (rowE E') p (nI (psh hs0 E).length) rf tx ln bo ss (nI j) fi' op' dp' wr wm f1 f2 pm ch sd sm pk sv sz vm hpz pl sg wt bu hsh)) (by omega) rfl rfl (fun _ => rfl) (fun _ => rfl) (fun _ => rfl) (fun Q' hQ' => m_leaves hX hg hP (fun p h => hQ' p h)) (fun p hp => ?_))
    iterate 2 refine hX ?_
    exact m_reads_loop hX u3 (hq1 E' p _ op' _ dp' fi' u2 u3 hp (rowE_len u3) u1) 49 0 rfl _ (rowE_len hg) (fun q h => by omega)
end ME
