/-! Choice. -/
/-- how often a BODY has the figure c; how many letters it has -/
def cf (c : Nat) : List Nat → Nat
  | [] => 0
  | d :: r => (if d = c then 1 else 0) + cf c r
def cl (b : List Nat) : Nat := b.length - cf 1 b - cf 2 b
theorem cf_le : ∀ (b : List Nat), cf 1 b + cf 2 b ≤ b.length
  | [] => by simp [cf]
  | d :: r => by
    have := cf_le r
    rw [cf, cf, List.length_cons]
    split <;> split <;> omega
def ChW (w p o t : List Int32) : pH := [.inr (1, [.ref 1, .ref 2, .ref 3, .ref 4]), .inl w, .inl p, .inl o, .inl t]
/-- the BODIES of the ten kinds -/
def chR (bs : List (List Nat)) (w p o t : List Int32) : Prop := (bs.length = 10 ∧ w.length = 10 ∧ p.length = 10 ∧ o.length = 10 ∧ t.length = 10) ∧ ∀ k, k < 10 → bOk (bs.getD k []) ∧ w.getD k 0 = nI (wC (bs.getD k [])) ∧ p.getD k 0 = nI (cl (bs.getD k [])) ∧ o.getD k 0 = nI (cf 1 (bs.getD k [])) ∧ t.getD k 0 = nI (cf 2 (bs.getD k []))
theorem chR_set {bs : List (List Nat)} {w p o t : List Int32} (h : chR bs w p o t) {k : Nat} (hk : k < 10) {b : List Nat} (hb : bOk b) {w' p' o' t' : List Int32} (hl : w'.length = 10 ∧ p'.length = 10 ∧ o'.length = 10 ∧ t'.length = 10) (hne : ∀ j, ¬ k = j → w'.getD j 0 = w.getD j 0 ∧ p'.getD j 0 = p.getD j 0 ∧ o'.getD j 0 = o.getD j 0 ∧ t'.getD j 0 = t.getD j 0) (hat : w'.getD k 0 = nI (wC b) ∧ p'.getD k 0 = nI (cl b) ∧ o'.getD k 0 = nI (cf 1 b) ∧ t'.getD k 0 = nI (cf 2 b)) : chR (bs.set k b) w' p' o' t' := by
  refine ⟨⟨by rw [List.length_set]; exact h.1.1, hl⟩, fun j hj => ?_⟩
  by_cases e : k = j
  · subst e
    rw [getD_set_eq (by rw [h.1.1]; exact hk)]
    exact ⟨hb, hat⟩
  · obtain ⟨e1, e2, e3, e4⟩ := hne j e
    rw [getD_set_ne e, e1, e2, e3, e4]
    exact h.2 j hj
section CH
variable {sc : List Int32} {X : pX} {B : pB} {Q : pQ} {w p o t : List Int32}
theorem t_take_loop (hX : Cl sc X) (hB : 1 ≤ B.1) {b : List Nat} (hb : bOk b) {k : Nat} (hk : k < 10) :
    ∀ (n j : Nat), j + n = 6 → ∀ (p o t : List Int32) (a0 a1 a2 : Nat) (l4 : Option Value), p.length = 10 → o.length = 10 → t.length = 10 → p.getD k 0 = nI a0 → o.getD k 0 = nI a1 → t.getD k 0 = nI a2 → (∀ p' o' t', p'.length = 10 → o'.length = 10 → t'.length = 10 → (∀ i, ¬ k = i → p'.getD i 0 = p.getD i 0 ∧ o'.getD i 0 = o.getD i 0 ∧ t'.getD i 0 = t.getD i 0) → p'.getD k 0 = nI (a0 + cl (b.drop j)) → o'.getD k 0 = nI (a1 + cf 1 (b.drop j)) → t'.getD k 0 = nI (a2 + cf 2 (b.drop j)) → Q none (ChW w p' o' t')) → X B 11 41 [some (.ref 0), some (.int (nI k)), some (.int (nI (wC b))), some (.int (nI j)), l4] [] (ChW w p o t) Q := by
  intro n
  induction n with
  | zero =>
    intro j hj p o t a0 a1 a2 l4 hp ho ht h0 h1 h2 hq
    have : j = 6 := by omega
    subst this
    have hd : b.drop 6 = [] := List.drop_eq_nil_of_le hb.1
    rw [hd] at hq
    repeat refine hX ?_
    refine And.intro (fun _ => ?_) (fun h => absurd (by decide) h)
    repeat refine hX ?_
    exact hq p o t hp ho ht (fun _ _ => ⟨rfl, rfl, rfl⟩) h0 h1 h2
  | succ n ih =>
    intro j hj p o t a0 a1 a2 l4 hp ho ht h0 h1 h2 hq
    have hdj : (b.getD j 0 = 0 ∧ b.drop j = [] ∧ b.drop (j + 1) = []) ∨ (1 ≤ b.getD j 0 ∧ b.getD j 0 ≤ 6 ∧ b.drop j = b.getD j 0 :: b.drop (j + 1)) := by
      by_cases hjl : j < b.length
      · right
        have := bOk_dig hb j
        refine ⟨this.2 hjl, this.1, ?_⟩
        rw [List.drop_eq_getElem_cons hjl, List.getD_eq_getElem?_getD, List.getElem?_eq_getElem hjl]
        rfl
      · left
        exact ⟨getD_out (by omega), List.drop_eq_nil_of_le (by omega), List.drop_eq_nil_of_le (by omega)⟩
    repeat refine hX ?_
    refine And.intro (fun h => absurd ((nle (a := 6) (by omega) (by omega)).mp h) (by omega)) (fun _ => ?_)
    repeat refine hX ?_
    refine (cP [] [.int (nI (wC b)), .int (nI j)] [] (some (.int (ltN (b.getD j 0)))) [.int (ltN (b.getD j 0))] hB rfl rfl rfl rfl (fun Q' hQ' => t_letterIn hX hb (by omega) hQ') ?_)
    have tail : ∀ (p' o' t' : List Int32) (b0 b1 b2 : Nat) (l4 : Option Value), p'.length = 10 → o'.length = 10 → t'.length = 10 → (∀ i, ¬ k = i → p'.getD i 0 = p.getD i 0 ∧ o'.getD i 0 = o.getD i 0 ∧ t'.getD i 0 = t.getD i 0) → p'.getD k 0 = nI b0 → o'.getD k 0 = nI b1 → t'.getD k 0 = nI b2 → b0 + cl (b.drop (j + 1)) = a0 + cl (b.drop j) → b1 + cf 1 (b.drop (j + 1)) = a1 + cf 1 (b.drop j) → b2 + cf 2 (b.drop (j + 1)) = a2 + cf 2 (b.drop j) → X B 11 109 [some (.ref 0), some (.int (nI k)), some (.int (nI (wC b))), some (.int (nI j)), l4] [] (ChW w p' o' t') Q := by
      intro p' o' t' b0 b1 b2 l4 hp' ho' ht' hne e0 e1 e2 f0 f1 f2
      iterate 2 refine hX ?_
      rw [show nI j + 1 = nI (j + 1) from (nI_succ j).symm]
      refine ih (j + 1) (by omega) p' o' t' b0 b1 b2 l4 hp' ho' ht' e0 e1 e2 (fun p2 o2 t2 g1 g2 g3 g4 g5 g6 g7 => hq p2 o2 t2 g1 g2 g3 (fun i hi => ?_) (by rw [g5, f0]) (by rw [g6, f1]) (by rw [g7, f2]))
      obtain ⟨x1, x2, x3⟩ := g4 i hi
      obtain ⟨y1, y2, y3⟩ := hne i hi
      exact ⟨x1.trans y1, x2.trans y2, x3.trans y3⟩
    rcases hdj with ⟨hz, hd1, hd2⟩ | ⟨hc1, hc6, hd1⟩
    · rw [hz]
      repeat refine hX ?_
      refine And.intro (fun h => absurd h (by decide)) (fun _ => ?_)
      repeat refine hX ?_
      refine And.intro (fun h => absurd h (by decide)) (fun _ => ?_)
      repeat refine hX ?_
      refine And.intro (fun _ => ?_) (fun h => absurd rfl h)
      exact tail p o t a0 a1 a2 _ hp ho ht (fun _ _ => ⟨rfl, rfl, rfl⟩) h0 h1 h2 (by rw [hd1, hd2]) (by rw [hd1, hd2]) (by rw [hd1, hd2])
    · generalize b.getD j 0 = c at hc1 hc6 hd1 ⊢
      have hle := cf_le (b.drop (j + 1))
      have hcl : cl (b.drop j) = (b.drop (j + 1)).length + 1 - cf 1 (c :: b.drop (j + 1)) - cf 2 (c :: b.drop (j + 1)) := by rw [hd1, cl, List.length_cons]
      have hcl2 : cl (b.drop (j + 1)) = (b.drop (j + 1)).length - cf 1 (b.drop (j + 1)) - cf 2 (b.drop (j + 1)) := rfl
      by_cases e1 : c = 1
      · subst e1
        repeat refine hX ?_
        refine And.intro (fun _ => ?_) (fun h => absurd (by decide) h)
        repeat refine hX ?_
        refine And.intro (vp_in_nI (by omega) (by omega)) ?_
        rw [nI_clamp (by omega), h1]
        repeat refine hX ?_
        refine And.intro (vp_in_nI (by omega) (by omega)) ?_
        rw [nI_clamp (by omega), show nI a1 + 1 = nI (a1 + 1) from (nI_succ a1).symm]
        refine hX ?_
        refine tail p (o.set k (nI (a1 + 1))) t a0 (a1 + 1) a2 _ hp (by rw [List.length_set]; exact ho) ht (fun i hi => ⟨rfl, getD_set_ne hi, rfl⟩) h0 (getD_set_eq (by omega)) h2 ?_ ?_ ?_
        · rw [hcl, hcl2]; simp only [cf]; simp; omega
        · rw [hd1]; simp only [cf]; simp; omega
        · rw [hd1]; simp only [cf]; simp
      · by_cases e2 : c = 2
        · subst e2
          repeat refine hX ?_
          refine And.intro (fun h => absurd h (by decide)) (fun _ => ?_)
          repeat refine hX ?_
          refine And.intro (fun _ => ?_) (fun h => absurd (by decide) h)
          repeat refine hX ?_
          refine And.intro (vp_in_nI (by omega) (by omega)) ?_
          rw [nI_clamp (by omega), h2]
          repeat refine hX ?_
          refine And.intro (vp_in_nI (by omega) (by omega)) ?_
          rw [nI_clamp (by omega), show nI a2 + 1 = nI (a2 + 1) from (nI_succ a2).symm]
          refine hX ?_
          refine tail p o (t.set k (nI (a2 + 1))) a0 a1 (a2 + 1) _ hp ho (by rw [List.length_set]; exact ht) (fun i hi => ⟨rfl, rfl, getD_set_ne hi⟩) h0 h1 (getD_set_eq (by omega)) ?_ ?_ ?_
          · rw [hcl, hcl2]; simp only [cf]; simp; omega
          · rw [hd1]; simp only [cf]; simp
          · rw [hd1]; simp only [cf]; simp; omega
        · have hlt : ¬ ltN c = 49 ∧ ¬ ltN c = 50 ∧ ¬ ltN c = 0 := (show ∀ c, c < 7 → 3 ≤ c → ¬ ltN c = 49 ∧ ¬ ltN c = 50 ∧ ¬ ltN c = 0 by decide) c (by omega) (by omega)
          repeat refine hX ?_
          refine And.intro (fun h => absurd h hlt.1) (fun _ => ?_)
          repeat refine hX ?_
          refine And.intro (fun h => absurd h hlt.2.1) (fun _ => ?_)
          repeat refine hX ?_
          refine And.intro (fun h => absurd h hlt.2.2) (fun _ => ?_)
          repeat refine hX ?_
          refine And.intro (vp_in_nI (by omega) (by omega)) ?_
          rw [nI_clamp (by omega), h0]
          repeat refine hX ?_
          refine And.intro (vp_in_nI (by omega) (by omega)) ?_
          rw [nI_clamp (by omega), show nI a0 + 1 = nI (a0 + 1) from (nI_succ a0).symm]
          refine tail (p.set k (nI (a0 + 1))) o t (a0 + 1) a1 a2 _ (by rw [List.length_set]; exact hp) ho ht (fun i hi => ⟨getD_set_ne hi, rfl, rfl⟩) (getD_set_eq (by omega)) h1 h2 ?_ ?_ ?_
          · rw [hcl, hcl2]; simp only [cf, if_neg e1, if_neg e2]; omega
          · rw [hd1]; simp only [cf, if_neg e1]; omega
          · rw [hd1]; simp only [cf, if_neg e2]; omega
theorem t_ctake (hX : Cl sc X) (hB : 1 ≤ B.1) {bs : List (List Nat)} (hR : chR bs w p o t) {k : Nat} (hk : k < 10) {b : List Nat} (hb : bOk b) (hq : ∀ w' p' o' t', chR (bs.set k b) w' p' o' t' → Q none (ChW w' p' o' t')) : X B 11 0 [some (.ref 0), some (.int (nI k)), some (.int (nI (wC b))), none, none] [] (ChW w p o t) Q := by
  obtain ⟨⟨l0, l1, l2, l3, l4⟩, -⟩ := id hR
  repeat refine hX ?_
  refine And.intro (fun h => absurd h (nneg (by omega))) (fun _ => ?_)
  repeat refine hX ?_
  refine And.intro (fun _ => ?_) (fun h => absurd ((nlt (b := 10) (by omega) (by omega)).mpr hk) h)
  repeat refine hX ?_
  refine And.intro (vp_in_nI (by omega) (by omega)) ?_
  repeat refine hX ?_
  refine And.intro (vp_in_nI (by omega) (by omega)) ?_
  repeat refine hX ?_
  refine And.intro (vp_in_nI (by omega) (by omega)) ?_
  repeat refine hX ?_
  refine And.intro (vp_in_nI (by omega) (by omega)) ?_
  rw [nI_clamp (by omega)]
  iterate 2 refine hX ?_
  refine t_take_loop hX hB hb hk 6 0 rfl (p.set k 0) (o.set k 0) (t.set k 0) 0 0 0 none (by rw [List.length_set]; exact l2) (by rw [List.length_set]; exact l3) (by rw [List.length_set]; exact l4) (getD_set_eq (by omega)) (getD_set_eq (by omega)) (getD_set_eq (by omega)) (fun p' o' t' g1 g2 g3 g4 g5 g6 g7 => hq _ p' o' t' (chR_set hR hk hb ⟨by rw [List.length_set]; exact l1, g1, g2, g3⟩ (fun i hi => ?_) ⟨getD_set_eq (by omega), ?_, ?_, ?_⟩))
  · obtain ⟨x1, x2, x3⟩ := g4 i hi
    rw [getD_set_ne hi] at x1 x2 x3
    exact ⟨getD_set_ne hi, x1, x2, x3⟩
  · rw [g5]; simp
  · rw [g6]; simp
  · rw [g7]; simp
theorem t_cword (hX : Cl sc X) {bs : List (List Nat)} (hR : chR bs w p o t) {k : Nat} (hk : k < 10) (hq : Q (some (.int (nI (wC (bs.getD k []))))) (ChW w p o t)) : X B 12 0 [some (.ref 0), some (.int (nI k))] [] (ChW w p o t) Q := by
  repeat refine hX ?_
  refine And.intro (fun h => absurd h (nneg (by omega))) (fun _ => ?_)
  repeat refine hX ?_
  refine And.intro (fun h => absurd ((nle (a := 10) (by omega) (by omega)).mp h) (by omega)) (fun _ => ?_)
  repeat refine hX ?_
  refine And.intro (vp_in_nI (by rw [hR.1.2.1]; exact hk) (by rw [hR.1.2.1]; omega)) ?_
  repeat refine hX ?_
  show Q (some (.int (w.getD (nI k).toNatClampNeg 0))) _
  rw [nI_clamp (by omega), (hR.2 k hk).2.1]
  exact hq
theorem t_nodesWith (hX : Cl sc X) {bs : List (List Nat)} (hR : chR bs w p o t) {k : Nat} (hk : k < 10) {a c : Nat} (hq : Q (some (.int (nI (cl (bs.getD k []) + cf 1 (bs.getD k []) * a + cf 2 (bs.getD k []) * c)))) (ChW w p o t)) : X B 13 0 [some (.ref 0), some (.int (nI k)), some (.int (nI a)), some (.int (nI c))] [] (ChW w p o t) Q := by
  obtain ⟨⟨l0, l1, l2, l3, l4⟩, h5⟩ := id hR
  obtain ⟨-, -, e1, e2, e3⟩ := h5 k hk
  repeat refine hX ?_
  refine And.intro (fun h => absurd h (nneg (by omega))) (fun _ => ?_)
  repeat refine hX ?_
  refine And.intro (fun _ => ?_) (fun h => absurd ((nlt (b := 10) (by omega) (by omega)).mpr hk) h)
  repeat refine hX ?_
  refine And.intro (vp_in_nI (by omega) (by omega)) ?_
  repeat refine hX ?_
  refine And.intro (vp_in_nI (by omega) (by omega)) ?_
  repeat refine hX ?_
  refine And.intro (vp_in_nI (by omega) (by omega)) ?_
  rw [nI_clamp (by omega), e1, e2, e3]
  repeat refine hX ?_
  show Q (some (.int (nI (cl (bs.getD k [])) + nI (cf 1 (bs.getD k [])) * nI a + nI (cf 2 (bs.getD k [])) * nI c))) _
  rw [nmul, nmul, nadd, nadd]
  exact hq
end CH
