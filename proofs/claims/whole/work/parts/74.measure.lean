/-! Equations.measure. -/
theorem getD_set_eq {α : Type} {l : List α} {i : Nat} {x d : α} (h : i < l.length) : (l.set i x).getD i d = x := by
  rw [List.getD_eq_getElem?_getD, List.getElem?_set_self h]; rfl
theorem getD_set_ne {α : Type} {l : List α} {i j : Nat} {x d : α} (h : ¬ i = j) : (l.set i x).getD j d = l.getD j d := by
  rw [List.getD_eq_getElem?_getD, List.getD_eq_getElem?_getD, List.getElem?_set_ne h]
theorem getD_take {α : Type} {l : List α} {i n : Nat} {d : α} (h : i < n) : (l.take n).getD i d = l.getD i d := by
  rw [List.getD_eq_getElem?_getD, List.getD_eq_getElem?_getD, List.getElem?_take_of_lt h]
/-- the part of the rows from place k on is as it should be -/
def mOKf (k : Nat) (l N D C : List Int32) : Prop := (N.length = 40 ∧ D.length = 40 ∧ C.length = 40) ∧ ∀ p, k ≤ p → p < l.length → N.getD p 0 = nI (tlen (l.drop p) 1) ∧ D.getD p 0 = nI (dpf (l.drop p)) ∧ C.getD p 0 = nI (sec l p)
theorem mOKf_step {k : Nat} {l N D C : List Int32} (h : mOKf (k + 1) l N D C) (hk : k < l.length) (hl : l.length ≤ 40) {n d c : Int32} (h1 : n = nI (tlen (l.drop k) 1)) (h2 : d = nI (dpf (l.drop k))) (h3 : c = nI (sec l k)) {C0 : List Int32} (hC0 : C0.length = 40) (hC1 : ∀ p, ¬ k = p → C0.getD p 0 = C.getD p 0) (hC2 : C0.getD k 0 = c) : mOKf k l (N.set k n) (D.set k d) C0 := by
  obtain ⟨⟨a1, a2, a3⟩, a4⟩ := h
  refine ⟨⟨by rw [List.length_set]; exact a1, by rw [List.length_set]; exact a2, hC0⟩, fun p hp hp2 => ?_⟩
  by_cases e : k = p
  · subst e
    rw [getD_set_eq (by omega), getD_set_eq (by omega)]
    exact ⟨h1, h2, hC2.trans h3⟩
  · rw [getD_set_ne e, getD_set_ne e, hC1 p e]
    exact a4 p (by omega) hp2
theorem nmax {a b : Nat} (ha : a < 2147483648) (hb : b < 2147483648) : (if nI a < nI b then nI b else nI a) = nI (max a b) := by
  by_cases h : a < b
  · rw [if_pos ((nlt ha hb).mpr h), Nat.max_eq_right (by omega)]
  · rw [if_neg (fun q => h ((nlt ha hb).mp q)), Nat.max_eq_left (by omega)]
theorem nmin {a b : Nat} (ha : a < 2147483648) (hb : b < 2147483648) : (if nI b < nI a then nI b else nI a) = nI (min a b) := by
  by_cases h : b < a
  · rw [if_pos ((nlt hb ha).mpr h), Nat.min_eq_right (by omega)]
  · rw [if_neg (fun q => h ((nlt hb ha).mp q)), Nat.min_eq_left (by omega)]
theorem nI_predA (n : Nat) : nI (n + 1) + -1 = nI n := by rw [← Int32.sub_eq_add_neg]; exact nI_pred n
section EQ2
variable {sc : List Int32} {X : pX} {B : pB} {Q : pQ} {L S N D C : List Int32} {sd tt : Int32}
set_option maxHeartbeats 1000000 in
theorem t_measure_loop (hX : Cl sc X) (hB : 1 ≤ B.1) {t m : Nat} (ht : t ≤ 40) (hL : L.length = 40) (hf : okF (L.take t) m = true) (hq : ∀ N D C, mOK (L.take t) N D C → Q none (EqW L S N D C sd (nI t))) :
    ∀ (k : Nat), k ≤ t → ∀ (N D C : List Int32) (l2 l3 l4 : Option Value), mOKf k (L.take t) N D C → X B 31 12 [some (.ref 0), some (.int (nI k + -1)), l2, l3, l4] [] (EqW L S N D C sd (nI t)) Q := by
  have hlt : (L.take t).length = t := by rw [List.length_take]; omega
  intro k
  induction k with
  | zero =>
    intro _ N D C l2 l3 l4 h
    repeat refine hX ?_
    refine And.intro (fun _ => ?_) (fun h1 => absurd (by decide) h1)
    repeat refine hX ?_
    exact hq N D C ⟨h.1, fun p hp => h.2 p (Nat.zero_le p) hp⟩
  | succ k ih =>
    intro hk N D C l2 l3 l4 h
    have hclamp : (nI k).toNatClampNeg = k := nI_clamp (by omega)
    have hclamp1 : ∀ j, j < 100 → (nI j).toNatClampNeg = j := fun j hj => nI_clamp (by omega)
    obtain ⟨⟨n1, n2, n3⟩, n4⟩ := id h
    rw [nI_predA]
    obtain ⟨m1, hm1⟩ := okF_suffix (L.take t) m k hf (by omega)
    rw [drop_cons (by omega)] at hm1
    obtain ⟨m2, rfl, hm2⟩ := okF_cons hm1
    have hdk := drop_cons (l := L.take t) (p := k) (by omega)
    have hg : (L.take t).getD k 0 = L.getD k 0 := getD_take (by omega)
    rw [hg] at hdk hm2
    repeat refine hX ?_
    refine And.intro (fun h1 => absurd h1 (nneg (by omega))) (fun _ => ?_)
    repeat refine hX ?_
    refine And.intro (vp_in_nI (by omega) (by omega)) ?_
    rw [hclamp]
    refine hX (cP [] [.int (L.getD k 0)] [] (some (.int (arI (L.getD k 0)))) [.int (arI (L.getD k 0))] hB rfl rfl rfl rfl (fun Q' hQ' => t_parts hX hQ') ?_)
    rw [arI_eq]
    generalize hc : L.getD k 0 = c at hdk hm2 hg ⊢
    repeat refine hX ?_
    refine And.intro (vp_in_nI (by omega) (by omega)) ?_
    rw [hclamp]
    have hC0 : (C.set k (nI k)).length = 40 := by rw [List.length_set]; exact n3
    rcases (show arN c = 0 ∨ arN c = 1 ∨ arN c = 2 by have := arN_le c; omega) with ha | ha | ha
    · rw [ha]
      repeat refine hX ?_
      refine And.intro (fun _ => ?_) (fun h1 => absurd (by decide) h1)
      repeat refine hX ?_
      refine And.intro (fun _ => ?_) (fun h1 => absurd (by decide) h1)
      repeat refine hX ?_
      refine And.intro (vp_in_nI (by omega) (by omega)) ?_
      repeat refine hX ?_
      refine And.intro (vp_in_nI (by omega) (by omega)) ?_
      rw [hclamp]
      iterate 2 refine hX ?_
      refine ih (by omega) (N.set k 1) (D.set k (0 + 1)) (C.set k (nI k)) _ _ _ (mOKf_step h (by omega) (by omega) ?_ ?_ ?_ hC0 (fun p hp => getD_set_ne hp) (getD_set_eq (by omega)))
      · rw [hdk, tlen1_0 ha]; rfl
      · rw [hdk, dpf_0 ha]; rfl
      · rw [sec, hg, ha]; rfl
    · have hpos := okF_pos hm2 (by omega)
      rw [List.length_drop, hlt] at hpos
      obtain ⟨e1, e2, e3⟩ := n4 (k + 1) (Nat.le_refl _) (by omega)
      rw [ha]
      repeat refine hX ?_
      refine And.intro (fun h1 => absurd h1 (by decide)) (fun _ => ?_)
      repeat refine hX ?_
      rw [show nI k + 1 = nI (k + 1) from (nI_succ k).symm]
      refine And.intro trivial (cP [0, 1, 2, 3, 4, 5] [.ref 0, .int (nI (k + 1))] (EqW L S N D (C.set k (nI k)) sd (nI t)) (some (.int (N.getD (k + 1) 0))) [.int (N.getD (k + 1) 0), .int 1] hB rfl rfl rfl rfl (fun Q' hQ' => t_nodesAt hX (by omega) n1 hQ') ?_)
      rw [e1]
      repeat refine hX ?_
      rw [show nI k + 1 = nI (k + 1) from (nI_succ k).symm]
      refine And.intro trivial (cP [0, 1, 2, 3, 4, 5] [.ref 0, .int (nI (k + 1))] (EqW L S N D (C.set k (nI k)) sd (nI t)) (some (.int (D.getD (k + 1) 0))) [.int (D.getD (k + 1) 0)] hB rfl rfl rfl rfl (fun Q' hQ' => t_depthAt hX (by omega) n2 hQ') ?_)
      rw [e2]
      repeat refine hX ?_
      refine And.intro (fun _ => ?_) (fun h1 => absurd (by decide) h1)
      repeat refine hX ?_
      refine And.intro (vp_in_nI (by omega) (by omega)) ?_
      repeat refine hX ?_
      refine And.intro (vp_in_nI (by omega) (by omega)) ?_
      rw [hclamp]
      iterate 2 refine hX ?_
      refine ih (by omega) (N.set k _) (D.set k _) (C.set k (nI k)) _ _ _ (mOKf_step h (by omega) (by omega) ?_ ?_ ?_ hC0 (fun p hp => getD_set_ne hp) (getD_set_eq (by omega)))
      · rw [hdk, tlen1_1 ha, show (1 : Int32) = nI 1 from rfl, nadd]
      · rw [hdk, dpf_1 ha (by rw [List.length_drop, hlt]; omega), nI_succ]
      · rw [sec, hg, ha]; rfl
    · have hpos := okF_pos hm2 (by omega)
      have hok2 := okF_drop ((L.take t).drop (k + 1)) 1 (m2 + 1) (by rw [show 1 + (m2 + 1) = m2 + 2 by omega, ← ha]; exact hm2)
      have hpos2 := okF_pos hok2 (by omega)
      rw [List.length_drop, List.length_drop, hlt] at hpos2
      rw [List.length_drop, hlt] at hpos
      obtain ⟨e1, e2, e3⟩ := n4 (k + 1) (Nat.le_refl _) (by omega)
      generalize hw : tlen ((L.take t).drop (k + 1)) 1 = w at hpos2 e1 hok2
      obtain ⟨f1, f2, f3⟩ := n4 (k + 1 + w) (by omega) (by omega)
      rw [ha]
      repeat refine hX ?_
      refine And.intro (fun h1 => absurd h1 (by decide)) (fun _ => ?_)
      repeat refine hX ?_
      rw [show nI k + 1 = nI (k + 1) from (nI_succ k).symm]
      refine And.intro trivial (cP [0, 1, 2, 3, 4, 5] [.ref 0, .int (nI (k + 1))] (EqW L S N D (C.set k (nI k)) sd (nI t)) (some (.int (N.getD (k + 1) 0))) [.int (N.getD (k + 1) 0), .int 1] hB rfl rfl rfl rfl (fun Q' hQ' => t_nodesAt hX (by omega) n1 hQ') ?_)
      rw [e1]
      repeat refine hX ?_
      rw [show nI k + 1 = nI (k + 1) from (nI_succ k).symm, show (1 : Int32) + nI w = nI (1 + w) from nadd 1 w]
      refine And.intro trivial (cP [0, 1, 2, 3, 4, 5] [.ref 0, .int (nI (k + 1))] (EqW L S N D (C.set k (nI k)) sd (nI t)) (some (.int (D.getD (k + 1) 0))) [.int (D.getD (k + 1) 0)] hB rfl rfl rfl rfl (fun Q' hQ' => t_depthAt hX (by omega) n2 hQ') ?_)
      rw [e2]
      repeat refine hX ?_
      refine And.intro (fun h1 => absurd h1 (by decide)) (fun _ => ?_)
      repeat refine hX ?_
      refine And.intro (vp_in_nI (by rw [List.length_set]; omega) (by omega)) ?_
      rw [hclamp, nadd, show k + (1 + w) = k + 1 + w by omega]
      repeat refine hX ?_
      rw [nadd, show k + (1 + w) = k + 1 + w by omega]
      refine And.intro trivial (cP [0, 1, 2, 3, 4, 5] [.ref 0, .int (nI (k + 1 + w))] (EqW L S N D ((C.set k (nI k)).set k (nI (k + 1 + w))) sd (nI t)) (some (.int (D.getD (k + 1 + w) 0))) [.int (D.getD (k + 1 + w) 0), .int (nI (dpf ((L.take t).drop (k + 1))))] hB rfl rfl rfl rfl (fun Q' hQ' => t_depthAt hX (by omega) n2 hQ') ?_)
      rw [f2]
      refine hX (And.intro ⟨hB, Nat.le_of_ble_eq_true rfl⟩ ?_)
      have hmax : (if nI (dpf ((L.take t).drop (k + 1))) < nI (dpf ((L.take t).drop (k + 1 + w))) then nI (dpf ((L.take t).drop (k + 1 + w))) else nI (dpf ((L.take t).drop (k + 1)))) = nI (max (dpf ((L.take t).drop (k + 1))) (dpf ((L.take t).drop (k + 1 + w)))) := by
        have d1 := dpf_len ((L.take t).drop (k + 1))
        have d2 := dpf_len ((L.take t).drop (k + 1 + w))
        rw [List.length_drop, hlt] at d1 d2
        exact nmax (by omega) (by omega)
      rw [hmax]
      repeat refine hX ?_
      rw [nadd, show k + (1 + w) = k + 1 + w by omega]
      refine And.intro trivial (cP [0, 1, 2, 3, 4, 5] [.ref 0, .int (nI (k + 1 + w))] (EqW L S N D ((C.set k (nI k)).set k (nI (k + 1 + w))) sd (nI t)) (some (.int (N.getD (k + 1 + w) 0))) [.int (N.getD (k + 1 + w) 0), .int (nI (1 + w))] hB rfl rfl rfl rfl (fun Q' hQ' => t_nodesAt hX (by omega) n1 hQ') ?_)
      rw [f1]
      repeat refine hX ?_
      refine And.intro (vp_in_nI (by omega) (by omega)) ?_
      repeat refine hX ?_
      refine And.intro (vp_in_nI (by omega) (by omega)) ?_
      rw [hclamp]
      iterate 2 refine hX ?_
      refine ih (by omega) (N.set k _) (D.set k _) ((C.set k (nI k)).set k (nI (k + 1 + w))) _ _ _ (mOKf_step h (by omega) (by omega) ?_ ?_ ?_ (by rw [List.length_set]; exact hC0) (fun p hp => by rw [getD_set_ne hp, getD_set_ne hp]) (getD_set_eq (by omega)))
      · rw [hdk, tlen1_2 ha, hw, nadd, List.drop_drop, Nat.add_comm (k + 1) w, Nat.add_comm w (k + 1)]
      · rw [hdk, dpf_2 ha (by rw [List.length_drop, hlt]; omega) (by rw [List.length_drop, hlt, hw]; omega), hw, List.drop_drop, nI_succ]
      · rw [sec, hg, ha, hw]; rfl
theorem t_measure (hX : Cl sc X) (hB : 1 ≤ B.1) {t m : Nat} (ht : t ≤ 40) (hL : L.length = 40) (hN : N.length = 40 ∧ D.length = 40 ∧ C.length = 40) (hf : okF (L.take t) m = true) (hq : ∀ N D C, mOK (L.take t) N D C → Q none (EqW L S N D C sd (nI t))) : X B 31 0 [some (.ref 0), none, none, none, none] [] (EqW L S N D C sd (nI t)) Q := by
  repeat refine hX ?_
  refine And.intro ⟨hB, Nat.le_of_ble_eq_true rfl⟩ ?_
  rw [show (if (40 : Int32) < nI t then (40 : Int32) else nI t) = nI t from if_neg (fun q => by have := (nlt (a := 40) (by omega) (by omega)).mp q; omega)]
  iterate 3 refine hX ?_
  rw [Int32.sub_eq_add_neg]
  refine t_measure_loop hX hB ht hL hf hq t (Nat.le_refl t) N D C _ _ _ ⟨hN, fun p hp hp2 => ?_⟩
  rw [List.length_take] at hp2
  omega
end EQ2
