/-! The model: terms, equations, all of THE TEXT. -/
theorem pst3 (E : List (List Int32)) (cur : List Int32) (p : Nat) (s : List Nat) (c : Int32) : pst (E, cur, p :: s, 3) c = if 1 < p then (if c = 44 then some (E, cur, (p - 1) :: s, 1) else none) else if c = 41 then some (E, cur, s, 3) else none := by
  simp [pst]
theorem pst2 (E : List (List Int32)) (cur : List Int32) (s : List Nat) (c : Int32) : pst (E, cur, s, 2) c = if c = 40 then some (E, cur, s, 1) else none := by
  simp [pst]
theorem pst3n (E : List (List Int32)) (cur : List Int32) (c : Int32) : pst (E, cur, [], 3) c = if E.length % 2 = 0 then (if c = 61 then some (E ++ [cur], [], [], 1) else none) else if c = 59 then some (E ++ [cur], [], [], 0) else none := by
  simp [pst]
theorem pst1 (E : List (List Int32)) (cur : List Int32) (s : List Nat) {a : Nat} (ha : a ≤ 1) (c : Int32) : pst (E, cur, s, a) c = if kdI c = -1 ∨ 8 ≤ E.length ∨ 40 ≤ E.flatten.length + cur.length then none else if arN c = 0 then some (E, cur ++ [c], s, 3) else some (E, cur ++ [c], arN c :: s, 2) := by
  simp [pst, ha]
/-- the outcome of closes: its answer, the place, the stack, what may come next -/
def clO (R : Nat ⊕ List (List Int32)) (t : List Int32) (E : List (List Int32)) (cur : List Int32) (r : Int32) (j : Nat) (s : List Nat) (a : Nat) (op : List Int32) (dp : Int32) : Prop := (j ≤ t.length ∧ op.length = 41) ∧ ((r = 0 ∧ R = .inl j) ∨ (r = 1 ∧ parse (t.drop j) j (E, cur, s, a) = R ∧ pInv (E, cur, s, a) ∧ stQ s op ∧ dp = nI s.length ∧ ((s = [] ∧ a = 3) ∨ (0 < s.length ∧ a = 1))))
section MD
variable {sc : List Int32} {X : pX} {B : pB} {Q : pQ} {nw fr pa rf tx bo ss op wr f1 f2 ch sd pk sv sz hpz pl sg bu : List Int32} {st ln ai fi dp wm pm sm vm wt : Int32} {hsh : Int64}
theorem m_closes_loop (hX : Cl sc X) (hB : 2 ≤ B.1) {t : List Int32} (hT : txR t tx ln) {R : Nat ⊕ List (List Int32)} {E : List (List Int32)} {cur : List Int32} : ∀ (s : List Nat) (i : Nat) (op : List Int32) (i0 : Int32), i0 = (if s = [] then 0 else 1) → i ≤ t.length → parse (t.drop i) i (E, cur, s, 3) = R → pInv (E, cur, s, 3) → stQ s op → (∀ r j s' a op' dp', i ≤ j → clO R t E cur r j s' a op' dp' → Q (some (.int r)) (MW nw fr pa st rf tx ln bo ss (nI j) fi op' dp' wr wm f1 f2 pm ch sd sm pk sv sz vm hpz pl sg wt bu hsh)) → X B 134 15 [some (.ref 0), some (.int 1), some (.int i0)] [] (MW nw fr pa st rf tx ln bo ss (nI i) fi op (nI s.length) wr wm f1 f2 pm ch sd sm pk sv sz vm hpz pl sg wt bu hsh) Q := by
  intro s
  induction s with
  | nil =>
    intro i op i0 h0 hi hR hI hS hq
    subst h0
    iterate 2 refine hX ?_
    refine And.intro (fun _ => ?_) (fun h => absurd rfl h)
    iterate 2 refine hX ?_
    exact And.intro (Or.inr rfl) (hq 1 i [] 3 op _ (Nat.le_refl _) ⟨⟨hi, hS.1⟩, Or.inr ⟨rfl, hR, hI, hS, rfl, Or.inl ⟨rfl, rfl⟩⟩⟩)
  | cons p s ih =>
    intro i op i0 h0 hi hR hI hS hq
    rw [if_neg (by simp)] at h0
    subst h0
    obtain ⟨t1, t2, t3⟩ := stQ_top hS
    have hp := hI.2.2.1 p List.mem_cons_self
    have hk := skp_le hi
    have ho := hS.1
    iterate 2 refine hX ?_
    refine And.intro (fun h => absurd h (by decide)) (fun _ => ?_)
    iterate 2 refine hX ?_
    refine And.intro (fun h => absurd h (by decide)) (fun _ => ?_)
    iterate 8 refine hX ?_
    rw [List.length_cons, nI_pred]
    refine And.intro (vp_in_nI (by omega) (by omega)) ?_
    rw [nI_clamp (by omega), t1]
    iterate 3 refine hX ?_
    rw [show nI p - 1 = nI (p - 1) from nsub (b := 1) (by omega)]
    refine And.intro (vp_in_nI (by omega) (by omega)) ?_
    rw [nI_clamp (by omega)]
    iterate 7 refine hX ?_
    rw [nI_pred]
    refine And.intro (vp_in_nI (by rw [List.length_set]; omega) (by rw [List.length_set]; omega)) ?_
    rw [nI_clamp (by omega), getD_set_eq (by omega)]
    refine hX ?_
    have hc1 : ∀ c : Int32, pst (E, cur, p :: s, 3) c = if 1 < p then (if c = 44 then some (E, cur, (p - 1) :: s, 1) else none) else if c = 41 then some (E, cur, s, 3) else none := pst3 E cur p s
    have hol : (op.set s.length (nI (p - 1))).length = 41 := by rw [List.length_set]; exact ho
    by_cases hp1 : 1 < p
    · refine And.intro (fun h => absurd ((nle (b := 0) (by omega) (by omega)).mp h) (by omega)) (fun _ => ?_)
      iterate 3 refine hX ?_
      refine And.intro trivial (cMw [.ref 0, .int 44] (fun u : Int32 × Nat => (u.1 = 1 ∧ u.2 = skp t i + 1 ∧ skp t i < t.length ∧ t.getD (skp t i) 0 = 44) ∨ (u.1 = 0 ∧ u.2 = skp t i ∧ ¬ (skp t i < t.length ∧ t.getD (skp t i) 0 = 44))) (fun u => some (.int u.1)) (fun u => (MW nw fr pa st rf tx ln bo ss (nI u.2) fi (op.set s.length (nI (p - 1))) (nI (s.length + 1)) wr wm f1 f2 pm ch sd sm pk sv sz vm hpz pl sg wt bu hsh)) (by omega) rfl rfl (fun _ => rfl) (fun _ => rfl) (fun _ => rfl) (fun Q' hQ' => m_passes hX (by show 1 ≤ B.1 - 1; omega) hT hi (fun a b => hQ' (1, _) (Or.inl ⟨rfl, rfl, a, b⟩)) (fun a => hQ' (0, _) (Or.inr ⟨rfl, rfl, a⟩))) ?_)
      rintro ⟨r, j⟩ hu
      dsimp only at hu ⊢
      refine hX ?_
      rcases hu with ⟨rfl, rfl, u3, u4⟩ | ⟨rfl, rfl, u3⟩
      · have hs2 : pst (E, cur, p :: s, 3) (t.getD (skp t i) 0) = some (E, cur, (p - 1) :: s, 1) := by rw [hc1, if_pos hp1, if_pos u4]
        exact And.intro (Or.inr rfl) (hq 1 _ ((p - 1) :: s) 1 _ _ (by omega) ⟨⟨by omega, hol⟩, Or.inr ⟨rfl, pass1 hR u3 hs2, pInv_step hI hs2, stQ_push t2 t3, by rw [List.length_cons], Or.inr ⟨by simp, rfl⟩⟩⟩)
      · exact And.intro (Or.inl rfl) (hq 0 _ [] 0 _ _ (by omega) ⟨⟨by omega, hol⟩, Or.inl ⟨rfl, pass0 hi hR (show ¬ 3 = 0 by decide) (fun a => by rw [hc1, if_pos hp1, if_neg (fun b => u3 ⟨a, b⟩)])⟩⟩)
    · refine And.intro (fun _ => ?_) (fun h => absurd ((nle (b := 0) (by omega) (by omega)).mpr (by omega)) h)
      iterate 3 refine hX ?_
      refine And.intro trivial (cMw [.ref 0, .int 41] (fun u : Int32 × Nat => (u.1 = 1 ∧ u.2 = skp t i + 1 ∧ skp t i < t.length ∧ t.getD (skp t i) 0 = 41) ∨ (u.1 = 0 ∧ u.2 = skp t i ∧ ¬ (skp t i < t.length ∧ t.getD (skp t i) 0 = 41))) (fun u => some (.int u.1)) (fun u => (MW nw fr pa st rf tx ln bo ss (nI u.2) fi (op.set s.length (nI (p - 1))) (nI (s.length + 1)) wr wm f1 f2 pm ch sd sm pk sv sz vm hpz pl sg wt bu hsh)) (by omega) rfl rfl (fun _ => rfl) (fun _ => rfl) (fun _ => rfl) (fun Q' hQ' => m_passes hX (by show 1 ≤ B.1 - 1; omega) hT hi (fun a b => hQ' (1, _) (Or.inl ⟨rfl, rfl, a, b⟩)) (fun a => hQ' (0, _) (Or.inr ⟨rfl, rfl, a⟩))) ?_)
      rintro ⟨r, j⟩ hu
      dsimp only at hu ⊢
      have hst2 : stQ s (op.set s.length (nI (p - 1))) := (stQ_top (stQ_push (p := p - 1) t2 t3)).2.1
      have tail : X B 134 15 [some (.ref 0), some (.int r), some (.int (if s = [] then 0 else 1))] [] (MW nw fr pa st rf tx ln bo ss (nI j) fi (op.set s.length (nI (p - 1))) (nI s.length) wr wm f1 f2 pm ch sd sm pk sv sz vm hpz pl sg wt bu hsh) Q → X B 134 65 [some (.ref 0), some (.int 1), some (.int 1)] [.int r] (MW nw fr pa st rf tx ln bo ss (nI j) fi (op.set s.length (nI (p - 1))) (nI (s.length + 1)) wr wm f1 f2 pm ch sd sm pk sv sz vm hpz pl sg wt bu hsh) Q := by
        intro hk2
        iterate 10 refine hX ?_
        rw [nI_pred]
        cases s with
        | nil =>
          refine And.intro (fun _ => ?_) (fun h => absurd (by decide) h)
          iterate 3 refine hX ?_
          exact hk2
        | cons q s =>
          rw [if_neg (by simp)] at hk2
          refine And.intro (fun h => absurd ((nle (b := 0) (by simp at t3 ⊢; omega) (by omega)).mp h) (by simp)) (fun _ => ?_)
          iterate 4 refine hX ?_
          exact hk2
      refine tail ?_
      rcases hu with ⟨rfl, rfl, u3, u4⟩ | ⟨rfl, rfl, u3⟩
      · have hs2 : pst (E, cur, p :: s, 3) (t.getD (skp t i) 0) = some (E, cur, s, 3) := by rw [hc1, if_neg hp1, if_pos u4]
        exact ih _ _ _ rfl (by omega) (pass1 hR u3 hs2) (pInv_step hI hs2) hst2 (fun r j s' a op' dp' a1 a2 => hq r j s' a op' dp' (by omega) a2)
      · have fin : Q (some (.int 0)) (MW nw fr pa st rf tx ln bo ss (nI (skp t i)) fi (op.set s.length (nI (p - 1))) (nI s.length) wr wm f1 f2 pm ch sd sm pk sv sz vm hpz pl sg wt bu hsh) := hq 0 _ [] 0 _ _ (by omega) ⟨⟨by omega, hol⟩, Or.inl ⟨rfl, pass0 hi hR (show ¬ 3 = 0 by decide) (fun a => by rw [hc1, if_neg hp1, if_neg (fun b => u3 ⟨a, b⟩)])⟩⟩
        cases s with
        | nil =>
          iterate 2 refine hX ?_
          refine And.intro (fun _ => ?_) (fun h => absurd rfl h)
          iterate 2 refine hX ?_
          exact And.intro (Or.inl rfl) fin
        | cons q s =>
          rw [if_neg (by simp)]
          iterate 2 refine hX ?_
          refine And.intro (fun h => absurd h (by decide)) (fun _ => ?_)
          iterate 2 refine hX ?_
          refine And.intro (fun _ => ?_) (fun h => absurd rfl h)
          iterate 2 refine hX ?_
          exact And.intro (Or.inl rfl) fin
theorem m_closes (hX : Cl sc X) (hB : 2 ≤ B.1) {t : List Int32} (hT : txR t tx ln) {R : Nat ⊕ List (List Int32)} {E : List (List Int32)} {cur : List Int32} {s : List Nat} {i : Nat} (hi : i ≤ t.length) (hR : parse (t.drop i) i (E, cur, s, 3) = R) (hI : pInv (E, cur, s, 3)) (hS : stQ s op) (hq : ∀ r j s' a op' dp', i ≤ j → clO R t E cur r j s' a op' dp' → Q (some (.int r)) (MW nw fr pa st rf tx ln bo ss (nI j) fi op' dp' wr wm f1 f2 pm ch sd sm pk sv sz vm hpz pl sg wt bu hsh)) : X B 134 0 [some (.ref 0), none, none] [] (MW nw fr pa st rf tx ln bo ss (nI i) fi op (nI s.length) wr wm f1 f2 pm ch sd sm pk sv sz vm hpz pl sg wt bu hsh) Q := by
  have := m_closes_loop hX hB hT s i op _ rfl hi hR hI hS hq
  iterate 5 refine hX ?_
  cases s with
  | nil =>
    refine And.intro (fun _ => ?_) (fun h => absurd (by decide) h)
    iterate 2 refine hX ?_
    exact this
  | cons q s =>
    rw [if_neg (by simp)] at this
    have h41 := hS.2.1
    refine And.intro (fun h => absurd ((nle (b := 0) (by omega) (by omega)).mp h) (by simp)) (fun _ => ?_)
    iterate 3 refine hX ?_
    exact this
/-- the outcome of a term: its answer, the place, its letters -/
def rtO (R : Nat ⊕ List (List Int32)) (t : List Int32) (E0 E : List (List Int32)) (r : Int32) (j : Nat) (cur fr op : List Int32) (fi : Int32) : Prop := (j ≤ t.length ∧ op.length = 41 ∧ fr.length = 49) ∧ ((r = 0 ∧ R = .inl j) ∨ (r = 1 ∧ parse (t.drop j) j (E, cur, [], 3) = R ∧ pInv (E, cur, [], 3) ∧ frR E0 (E.flatten ++ cur) fr ∧ fi = nI (E.flatten ++ cur).length))
theorem m_readsTerm_loop (hX : Cl sc X) (hB : 6 ≤ B.1) {t : List Int32} (hT : txR t tx ln) {R : Nat ⊕ List (List Int32)} {E0 E : List (List Int32)} (hE : E.length < 8) : ∀ (m i : Nat) (cur : List Int32) (s : List Nat) (fr op : List Int32) (l2 : Option Value), t.length - i ≤ m → i ≤ t.length → parse (t.drop i) i (E, cur, s, 1) = R → pInv (E, cur, s, 1) → stQ s op → frR E0 (E.flatten ++ cur) fr → (∀ r j cur' fr' op' dp' fi', i ≤ j → rtO R t E0 E r j cur' fr' op' fi' → Q (some (.int r)) (MW nw fr' pa st rf tx ln bo ss (nI j) fi' op' dp' wr wm f1 f2 pm ch sd sm pk sv sz vm hpz pl sg wt bu hsh)) → X B 135 7 [some (.ref 0), some (.int 1), l2] [] (MW nw fr pa st rf tx ln bo ss (nI i) (nI (E.flatten ++ cur).length) op (nI s.length) wr wm f1 f2 pm ch sd sm pk sv sz vm hpz pl sg wt bu hsh) Q := by
  intro m
  induction m with
  | zero =>
    intro i cur s fr op l2 hm hi hR hI hS hF hq
    have hk := skp_le hi
    have h40 := hF.1.2.1
    iterate 2 refine hX ?_
    refine And.intro (fun h => absurd h (by decide)) (fun _ => ?_)
    iterate 2 refine hX ?_
    refine And.intro trivial (cMw [.ref 0] (fun u : Int32 × Nat => u.1 = -1 ∧ u.2 = skp t i) (fun u => some (.int u.1)) (fun u => (MW nw fr pa st rf tx ln bo ss (nI u.2) (nI (E.flatten ++ cur).length) op (nI s.length) wr wm f1 f2 pm ch sd sm pk sv sz vm hpz pl sg wt bu hsh)) (by omega) rfl rfl (fun _ => rfl) (fun _ => rfl) (fun _ => rfl) (fun Q' hQ' => m_letterPassed hX (by show 4 ≤ B.1 - 1; omega) hT hi h40 hF.1.1 (fun a => absurd a (by omega)) (fun _ => hQ' (-1, _) ⟨rfl, rfl⟩)) ?_)
    rintro ⟨r, j⟩ hu
    dsimp only at hu ⊢
    obtain ⟨rfl, rfl⟩ := hu
    iterate 3 refine hX ?_
    refine And.intro (fun h => absurd h (by decide)) (fun _ => ?_)
    iterate 2 refine hX ?_
    exact And.intro (Or.inl rfl) (hq 0 _ [] fr op _ _ (by omega) ⟨⟨by omega, hS.1, hF.1.1⟩, Or.inl ⟨rfl, pass0 hi hR (by show ¬ 1 = 0; decide) (fun a => absurd a (by omega))⟩⟩)
  | succ m ih =>
    intro i cur s fr op l2 hm hi hR hI hS hF hq
    have hk := skp_le hi
    have h40 := hF.1.2.1
    have hcl : (E.flatten ++ cur).length = E.flatten.length + cur.length := List.length_append
    have hsl := hI.1.2.2.1
    have hcur := hI.1.2.1
    iterate 2 refine hX ?_
    refine And.intro (fun h => absurd h (by decide)) (fun _ => ?_)
    iterate 2 refine hX ?_
    refine And.intro trivial (cMw [.ref 0] (fun u : Int32 × Nat × Int32 × List Int32 => (u.1 = nI (arN (t.getD (skp t i) 0)) ∧ u.2.1 = skp t i + 1 ∧ u.2.2.1 = nI ((E.flatten ++ cur).length + 1) ∧ u.2.2.2 = fr.set (9 + (E.flatten ++ cur).length) (t.getD (skp t i) 0) ∧ skp t i < t.length ∧ ¬ kdI (t.getD (skp t i) 0) = -1 ∧ (E.flatten ++ cur).length < 40) ∨ (u.1 = -1 ∧ u.2.1 = skp t i ∧ u.2.2.1 = nI (E.flatten ++ cur).length ∧ u.2.2.2 = fr ∧ (skp t i < t.length → kdI (t.getD (skp t i) 0) = -1 ∨ 40 ≤ (E.flatten ++ cur).length))) (fun u => some (.int u.1)) (fun u => (MW nw u.2.2.2 pa st rf tx ln bo ss (nI u.2.1) u.2.2.1 op (nI s.length) wr wm f1 f2 pm ch sd sm pk sv sz vm hpz pl sg wt bu hsh)) (by omega) rfl rfl (fun _ => rfl) (fun _ => rfl) (fun _ => rfl) (fun Q' hQ' => m_letterPassed hX (by show 4 ≤ B.1 - 1; omega) hT hi h40 hF.1.1 (fun a b c => hQ' (_, _, _, _) (Or.inl ⟨rfl, rfl, rfl, rfl, a, b, c⟩)) (fun a => hQ' (-1, _, _, _) (Or.inr ⟨rfl, rfl, rfl, rfl, a⟩))) ?_)
    rintro ⟨r, j, fi', fr'⟩ hu
    dsimp only at hu ⊢
    rcases hu with ⟨rfl, rfl, rfl, rfl, u1, u2, u3⟩ | ⟨rfl, rfl, rfl, rfl, u1⟩
    · generalize hc : t.getD (skp t i) 0 = c at u2
      have hF2 : frR E0 (E.flatten ++ (cur ++ [c])) (fr.set (9 + (E.flatten ++ cur).length) c) := by rw [← List.append_assoc]; exact frR_push hF u3 c
      have hfi : nI ((E.flatten ++ cur).length + 1) = nI (E.flatten ++ (cur ++ [c])).length := by rw [← List.append_assoc, List.length_append (bs := [c]), List.length_singleton]
      rw [hfi]
      have hps : pst (E, cur, s, 1) (t.getD (skp t i) 0) = if arN c = 0 then some (E, cur ++ [c], s, 3) else some (E, cur ++ [c], arN c :: s, 2) := by
        rw [hc, pst1 E cur s (Nat.le_refl 1), if_neg]
        rintro (z | z | z)
        · exact u2 z
        · omega
        · omega
      have har := arN_le c
      iterate 3 refine hX ?_
      refine And.intro (fun _ => ?_) (fun h => absurd (nI_pos' (by omega)) h)
      iterate 2 refine hX ?_
      by_cases h0 : arN c = 0
      · rw [if_pos h0] at hps
        rw [h0]
        refine And.intro (fun _ => ?_) (fun h => absurd (by decide) h)
        iterate 2 refine hX ?_
        have hI2 := pInv_step hI hps
        refine And.intro trivial (cMw [.ref 0] (fun u : Int32 × Nat × List Nat × Nat × List Int32 × Int32 => skp t i + 1 ≤ u.2.1 ∧ clO R t E (cur ++ [c]) u.1 u.2.1 u.2.2.1 u.2.2.2.1 u.2.2.2.2.1 u.2.2.2.2.2) (fun u => some (.int u.1)) (fun u => (MW nw (fr.set (9 + (E.flatten ++ cur).length) c) pa st rf tx ln bo ss (nI u.2.1) (nI (E.flatten ++ (cur ++ [c])).length) u.2.2.2.2.1 u.2.2.2.2.2 wr wm f1 f2 pm ch sd sm pk sv sz vm hpz pl sg wt bu hsh)) (by omega) rfl rfl (fun _ => rfl) (fun _ => rfl) (fun _ => rfl) (fun Q' hQ' => m_closes hX (by show 2 ≤ B.1 - 1; omega) hT (by omega) (pass1 hR u1 hps) hI2 hS (fun r j s' a op' dp' h1 h2 => hQ' (r, j, s', a, op', dp') ⟨h1, h2⟩)) ?_)
        rintro ⟨r, j, s', a, op', dp'⟩ ⟨hj, hcl2⟩
        dsimp only at hj hcl2 ⊢
        obtain ⟨⟨c1, c2⟩, c3⟩ := hcl2
        rcases c3 with ⟨rfl, c4⟩ | ⟨rfl, c4, c5, c6, rfl, c8⟩
        · refine hX (And.intro (fun _ => ?_) (fun h => absurd rfl h))
          iterate 2 refine hX ?_
          exact And.intro (Or.inl rfl) (hq 0 j [] _ op' _ _ (by omega) ⟨⟨c1, c2, hF2.1.1⟩, Or.inl ⟨rfl, c4⟩⟩)
        · refine hX (And.intro (fun h => absurd h (by decide)) (fun _ => ?_))
          iterate 3 refine hX ?_
          rcases c8 with ⟨rfl, rfl⟩ | ⟨c8, rfl⟩
          · refine And.intro (fun _ => ?_) (fun h => absurd (by decide) h)
            iterate 5 refine hX ?_
            refine And.intro (fun _ => ?_) (fun h => absurd rfl h)
            iterate 2 refine hX ?_
            exact And.intro (Or.inr rfl) (hq 1 j (cur ++ [c]) _ op' _ _ (by omega) ⟨⟨c1, c2, hF2.1.1⟩, Or.inr ⟨rfl, c4, c5, hF2, rfl⟩⟩)
          · have hsl2 := c6.2.1
            refine And.intro (fun h => absurd ((nle (b := 0) (by omega) (by omega)).mp h) (by omega)) (fun _ => ?_)
            iterate 4 refine hX ?_
            exact ih j (cur ++ [c]) s' _ op' _ (by omega) c1 c4 c5 c6 hF2 (fun r j cur' fr' op' dp' fi' a1 a2 => hq r j cur' fr' op' dp' fi' (by omega) a2)
      · rw [if_neg h0] at hps
        refine And.intro (fun h => absurd ((nle (b := 0) (by omega) (by omega)).mp h) (by omega)) (fun _ => ?_)
        iterate 6 refine hX ?_
        refine And.intro (vp_in_nI (by rw [hS.1]; omega) (by rw [hS.1]; omega)) ?_
        rw [nI_clamp (by omega)]
        iterate 9 refine hX ?_
        rw [show nI s.length + 1 = nI (s.length + 1) from (nI_succ _).symm]
        have hI2 := pInv_step hI hps
        have hR2 := pass1 hR u1 hps
        have hi2 : skp t i + 1 ≤ t.length := by omega
        generalize hi' : skp t i + 1 = i' at hR2 hi2
        have hk2 := skp_le hi2
        have hst2 : stQ (arN c :: s) (op.set s.length (nI (arN c))) := stQ_push hS (by omega)
        refine And.intro trivial (cMw [.ref 0, .int 40] (fun u : Int32 × Nat => (u.1 = 1 ∧ u.2 = skp t i' + 1 ∧ skp t i' < t.length ∧ t.getD (skp t i') 0 = 40) ∨ (u.1 = 0 ∧ u.2 = skp t i' ∧ ¬ (skp t i' < t.length ∧ t.getD (skp t i') 0 = 40))) (fun u => some (.int u.1)) (fun u => (MW nw (fr.set (9 + (E.flatten ++ cur).length) c) pa st rf tx ln bo ss (nI u.2) (nI (E.flatten ++ (cur ++ [c])).length) (op.set s.length (nI (arN c))) (nI (s.length + 1)) wr wm f1 f2 pm ch sd sm pk sv sz vm hpz pl sg wt bu hsh)) (by omega) rfl rfl (fun _ => rfl) (fun _ => rfl) (fun _ => rfl) (fun Q' hQ' => m_passes hX (by show 1 ≤ B.1 - 1; omega) hT hi2 (fun a b => hQ' (1, _) (Or.inl ⟨rfl, rfl, a, b⟩)) (fun a => hQ' (0, _) (Or.inr ⟨rfl, rfl, a⟩))) ?_)
        rintro ⟨r, j⟩ hu
        dsimp only at hu ⊢
        rcases hu with ⟨rfl, rfl, u3, u4⟩ | ⟨rfl, rfl, u3⟩
        · have hs3 : pst (E, cur ++ [c], arN c :: s, 2) (t.getD (skp t i') 0) = some (E, cur ++ [c], arN c :: s, 1) := by rw [pst2, if_pos u4]
          refine hX (And.intro (fun h => absurd h (by decide)) (fun _ => ?_))
          refine hX ?_
          have := ih (skp t i' + 1) (cur ++ [c]) (arN c :: s) _ _ (some (.int (nI (arN c)))) (by omega) (by omega) (pass1 hR2 u3 hs3) (pInv_step hI2 hs3) hst2 hF2 (fun r j cur' fr' op' dp' fi' a1 a2 => hq r j cur' fr' op' dp' fi' (by omega) a2)
          rw [List.length_cons] at this
          exact this
        · refine hX (And.intro (fun _ => ?_) (fun h => absurd rfl h))
          iterate 2 refine hX ?_
          exact And.intro (Or.inl rfl) (hq 0 _ [] _ _ _ _ (by omega) ⟨⟨by omega, hst2.1, hF2.1.1⟩, Or.inl ⟨rfl, pass0 hi2 hR2 (by show ¬ 2 = 0; decide) (fun a => by rw [pst2, if_neg (fun b => u3 ⟨a, b⟩)])⟩⟩)
    · iterate 3 refine hX ?_
      refine And.intro (fun h => absurd h (by decide)) (fun _ => ?_)
      iterate 2 refine hX ?_
      exact And.intro (Or.inl rfl) (hq 0 _ [] _ _ _ _ (by omega) ⟨⟨by omega, hS.1, hF.1.1⟩, Or.inl ⟨rfl, pass0 hi hR (by show ¬ 1 = 0; decide) (fun a => by rw [pst1 E cur s (Nat.le_refl 1), if_pos]; rcases u1 a with z | z; exact Or.inl z; exact Or.inr (Or.inr (by omega)))⟩⟩)
theorem m_readsTerm (hX : Cl sc X) (hB : 6 ≤ B.1) {t : List Int32} (hT : txR t tx ln) {R : Nat ⊕ List (List Int32)} {E0 E : List (List Int32)} (hE : E.length < 8) {i : Nat} (hi : i ≤ t.length) (hR : parse (t.drop i) i (E, [], [], 1) = R) (hI : pInv (E, [], [], 1)) (ho : op.length = 41) (hF : frR E0 E.flatten fr) (hq : ∀ r j cur' fr' op' dp' fi', i ≤ j → rtO R t E0 E r j cur' fr' op' fi' → Q (some (.int r)) (MW nw fr' pa st rf tx ln bo ss (nI j) fi' op' dp' wr wm f1 f2 pm ch sd sm pk sv sz vm hpz pl sg wt bu hsh)) : X B 135 0 [some (.ref 0), none, none] [] (MW nw fr pa st rf tx ln bo ss (nI i) (nI E.flatten.length) op dp wr wm f1 f2 pm ch sd sm pk sv sz vm hpz pl sg wt bu hsh) Q := by
  iterate 5 refine hX ?_
  have := m_readsTerm_loop hX hB hT hE _ i [] [] fr op none (Nat.le_refl _) hi hR hI (stQ_nil ho) (by rw [List.append_nil]; exact hF) hq
  rw [List.append_nil] at this
  exact this
end MD
