/-! Equations: an equation goes, its sides change places; a new object. -/
theorem pre_left {A W : List (List Int32)} {k : Nat} (h : k ≤ A.length) : pre (A ++ W) k = pre A k := by
  rw [pre, pre, List.take_append_of_le_length h]
theorem pre_right {A W : List (List Int32)} (k : Nat) : pre (A ++ W) (A.length + k) = A.flatten.length + pre W k := by
  rw [pre, pre, List.take_length_add_append, List.flatten_append, List.length_append]
theorem pre_le {E : List (List Int32)} (k : Nat) : pre E k ≤ E.flatten.length := by
  have h : E.flatten = (E.take k).flatten ++ (E.drop k).flatten := by rw [← List.flatten_append, List.take_append_drop]
  rw [pre, h, List.length_append]
  omega
theorem pre_all {E : List (List Int32)} : pre E E.length = E.flatten.length := by rw [pre, List.take_length]
section EQ4
variable {sc : List Int32} {X : pX} {B : pB} {Q : pQ} {L S N D C : List Int32} {sd tt : Int32}
theorem t_remove_loop (hX : Cl sc X) {A Z : List (List Int32)} {u v : List Int32} {i : Nat} (hA : A.length = 2 * i) (hK : (A ++ u :: v :: Z).length ≤ 8) (hT : (A ++ u :: v :: Z).flatten.length ≤ 40)
    (kk : ∀ S' : List Int32, S'.length = 9 → (∀ k, k ≤ (A ++ Z).length → S'.getD k 0 = nI (pre (A ++ Z) k)) → X B 29 90 [some (.ref 0), some (.int (nI i)), some (.int (nI A.flatten.length)), some (.int (nI (A.flatten.length + u.length + v.length))), some (.int (nI ((A ++ Z).length + 1)))] [] (EqW L S' N D C (nI (A ++ u :: v :: Z).length) tt) Q) :
    ∀ (n s : Nat), s + n = (A ++ Z).length + 1 → 2 * i ≤ s → ∀ (S : List Int32), S.length = 9 → (∀ k, k < s → k ≤ (A ++ Z).length → S.getD k 0 = nI (pre (A ++ Z) k)) → (∀ k, s ≤ k → k ≤ (A ++ u :: v :: Z).length → S.getD k 0 = nI (pre (A ++ u :: v :: Z) k)) → X B 29 53 [some (.ref 0), some (.int (nI i)), some (.int (nI A.flatten.length)), some (.int (nI (A.flatten.length + u.length + v.length))), some (.int (nI s))] [] (EqW L S N D C (nI (A ++ u :: v :: Z).length) tt) Q := by
  have hlen : (A ++ u :: v :: Z).length = (A ++ Z).length + 2 := by simp; omega
  intro n
  induction n with
  | zero =>
    intro s hs h2 S hS h3 h4
    repeat refine hX ?_
    rw [show nI s + 2 = nI (s + 2) from nadd s 2]
    refine And.intro (fun _ => ?_) (fun h1 => absurd ((nlt (by omega) (by omega)).mpr (by omega)) h1)
    have := kk S hS (fun k hk => h3 k (by omega) hk)
    rw [show s = (A ++ Z).length + 1 by omega]
    exact this
  | succ n ih =>
    intro s hs h2 S hS h3 h4
    repeat refine hX ?_
    rw [show nI s + 2 = nI (s + 2) from nadd s 2]
    refine And.intro (fun h1 => absurd ((nlt (by omega) (by omega)).mp h1) (by omega)) (fun _ => ?_)
    repeat refine hX ?_
    rw [show nI s + 2 = nI (s + 2) from nadd s 2]
    refine And.intro (vp_in_nI (by omega) (by omega)) ?_
    rw [nI_clamp (by omega), h4 (s + 2) (by omega) (by omega)]
    obtain ⟨j, rfl⟩ : ∃ j, s = A.length + j := ⟨s - A.length, by omega⟩
    have e1 : pre (A ++ u :: v :: Z) (A.length + j + 2) = A.flatten.length + (u.length + v.length + pre Z j) := by
      rw [Nat.add_assoc, pre_right]
      simp [pre]
      omega
    have e2 : pre (A ++ Z) (A.length + j) = A.flatten.length + pre Z j := pre_right j
    have e3 := pre_le (E := A ++ u :: v :: Z) (A.length + j + 2)
    rw [e1] at e3
    rw [e1]
    repeat refine hX ?_
    rw [nsub (by omega), nsub (by omega)]
    refine And.intro (vp_in_nI (by omega) (by omega)) ?_
    rw [nI_clamp (by omega)]
    iterate 2 refine hX ?_
    rw [show nI (A.length + j) + 1 = nI (A.length + j + 1) from (nI_succ _).symm]
    refine ih (A.length + j + 1) (by omega) (by omega) _ (by rw [List.length_set]; exact hS) (fun k hk hk2 => ?_) (fun k hk hk2 => ?_)
    · by_cases e : A.length + j = k
      · subst e
        rw [getD_set_eq (by omega), e2]
        congr 1
        omega
      · rw [getD_set_ne e]
        exact h3 k (by omega) hk2
    · rw [getD_set_ne (by omega)]
      exact h4 k (by omega) hk2
theorem take_eq {α : Type} {l a b : List α} {n : Nat} (h : l.take n = a ++ b) : l.take a.length = a := by
  have hle : a.length ≤ n ∨ n < a.length := by omega
  rcases hle with hle | hle
  · have := congrArg (List.take a.length) h
    rw [List.take_take, Nat.min_eq_left hle, List.take_left] at this
    exact this
  · have := congrArg List.length h
    rw [List.length_take, List.length_append] at this
    omega
theorem t_remove (hX : Cl sc X) (hB : 2 ≤ B.1) {A Z : List (List Int32)} {u v : List Int32} {i : Nat} (hA : A.length = 2 * i) (hN : N.length = 40 ∧ D.length = 40 ∧ C.length = 40) (hE : EqInv (A ++ u :: v :: Z) L S)
    (hq : ∀ L' S' N' D' C', EqInv (A ++ Z) L' S' → mOK (A ++ Z).flatten N' D' C' → Q none (EqW L' S' N' D' C' (nI (A ++ Z).length) (nI (A ++ Z).flatten.length))) : X B 29 0 [some (.ref 0), some (.int (nI i)), none, none, none] [] (EqW L S N D C (nI (A ++ u :: v :: Z).length) (nI (A ++ u :: v :: Z).flatten.length)) Q := by
  obtain ⟨⟨g1, g2, g3, g4⟩, g5, g6, g7⟩ := id hE
  have hlen : (A ++ u :: v :: Z).length = (A ++ Z).length + 2 := by simp; omega
  have hAl : A.length ≤ (A ++ Z).length := by simp
  have p0 : pre (A ++ u :: v :: Z) (2 * i) = A.flatten.length := by rw [← hA]; have := pre_right (A := A) (W := u :: v :: Z) 0; simpa [pre] using this
  have p2 : pre (A ++ u :: v :: Z) (2 * i + 2) = A.flatten.length + u.length + v.length := by rw [← hA, pre_right]; simp [pre]; omega
  have ft : (A ++ u :: v :: Z).flatten.length = A.flatten.length + u.length + v.length + Z.flatten.length := by simp; omega
  have ft2 : (A ++ Z).flatten.length = A.flatten.length + Z.flatten.length := by simp
  repeat refine hX ?_
  refine And.intro trivial (cP [0, 1, 2, 3, 4, 5] [.ref 0, .int (nI i)] (EqW L S N D C (nI (A ++ u :: v :: Z).length) (nI (A ++ u :: v :: Z).flatten.length)) (some (.int (hsI (nI i) ((A ++ u :: v :: Z).length / 2)))) [.int (hsI (nI i) ((A ++ u :: v :: Z).length / 2))] (by omega) rfl rfl rfl rfl (fun Q' hQ' => t_has hX (by show 1 ≤ B.1 - 1; omega) (by omega) hQ') ?_)
  rw [hsI_in (by omega) (by omega)]
  refine hX (And.intro (fun h1 => absurd h1 (by decide)) (fun _ => ?_))
  repeat refine hX ?_
  rw [show (2 : Int32) * nI i = nI (2 * i) from nmul 2 i]
  refine And.intro (vp_in_nI (by omega) (by omega)) ?_
  rw [nI_clamp (by omega), g6 (2 * i) (by omega), p0]
  repeat refine hX ?_
  rw [show (2 : Int32) * nI i = nI (2 * i) from nmul 2 i, show nI (2 * i) + 2 = nI (2 * i + 2) from nadd _ 2]
  refine And.intro (vp_in_nI (by omega) (by omega)) ?_
  rw [nI_clamp (by omega), g6 (2 * i + 2) (by omega), p2]
  repeat refine hX ?_
  rw [nsub (by omega)]
  refine And.intro ⟨⟨by omega, Nat.le_of_ble_eq_true rfl⟩, ⟨nneg (by omega), nneg (by omega), nneg (by omega)⟩, by rw [nI_clamp (by omega), nI_clamp (by omega)]; omega, by rw [nI_clamp (by omega), nI_clamp (by omega)]; omega⟩ ?_
  rw [nI_clamp (by omega), nI_clamp (by omega), nI_clamp (by omega), show (A ++ u :: v :: Z).flatten.length - (A.flatten.length + u.length + v.length) = Z.flatten.length by omega]
  generalize hL' : pCopy L L (A.flatten.length + u.length + v.length) A.flatten.length Z.flatten.length = L'
  have lL' : L'.length = 40 := by rw [← hL', pCopy_len (by omega) (by omega)]; exact g1
  have tL' : L'.take (A ++ Z).flatten.length = (A ++ Z).flatten := by
    have q1 : L.take A.flatten.length = A.flatten := take_eq (n := (A ++ u :: v :: Z).flatten.length) (b := u ++ (v ++ Z.flatten)) (by rw [g5]; simp)
    have q2 : (L.drop (A.flatten.length + u.length + v.length)).take Z.flatten.length = Z.flatten := by
      have : (L.take (A ++ u :: v :: Z).flatten.length).drop (A.flatten.length + u.length + v.length) = Z.flatten := by
        rw [g5]
        have e : (A ++ u :: v :: Z).flatten = (A.flatten ++ u ++ v) ++ Z.flatten := by simp
        rw [e, List.drop_left' (by simp; omega)]
      rw [List.drop_take] at this
      rw [show (A ++ u :: v :: Z).flatten.length - (A.flatten.length + u.length + v.length) = Z.flatten.length by omega] at this
      exact this
    rw [← hL', pCopy, q1, q2, ft2, List.take_left' (by simp)]
    simp
  iterate 4 refine hX ?_
  rw [show (2 : Int32) * nI i = nI (2 * i) from nmul 2 i]
  refine t_remove_loop hX hA g3 g4 (fun S' lS' hS' => ?_) ((A ++ Z).length + 1 - 2 * i) (2 * i) (by omega) (Nat.le_refl _) S g2 (fun k hk hk2 => ?_) (fun k _ hk2 => g6 k hk2)
  · repeat refine hX ?_
    rw [show (2 : Int32) = nI 2 from rfl, nsub (by omega), nsub (by omega), nsub (by omega), show (A ++ u :: v :: Z).length - 2 = (A ++ Z).length by omega, show (A ++ u :: v :: Z).flatten.length - (A.flatten.length + u.length + v.length - A.flatten.length) = (A ++ Z).flatten.length by omega]
    have hE2 : EqInv (A ++ Z) L' S' := ⟨⟨lL', lS', by omega, by omega⟩, tL', hS', fun t ht => g7 t (by
      rcases List.mem_append.mp ht with h | h
      · exact List.mem_append_left _ h
      · exact List.mem_append_right _ (List.mem_cons_of_mem _ (List.mem_cons_of_mem _ h)))⟩
    refine And.intro trivial (cM [0, 1, 2, 3, 4, 5] [.ref 0] (EqW L' S' N D C (nI (A ++ Z).length) (nI (A ++ Z).flatten.length)) (fun u : List Int32 × List Int32 × List Int32 => mOK (A ++ Z).flatten u.1 u.2.1 u.2.2) (fun _ => none) (fun u => EqW L' S' u.1 u.2.1 u.2.2 (nI (A ++ Z).length) (nI (A ++ Z).flatten.length)) (fun u => EqW L' S' u.1 u.2.1 u.2.2 (nI (A ++ Z).length) (nI (A ++ Z).flatten.length)) (fun _ => []) (by omega) rfl rfl rfl (fun _ => rfl) (fun _ => rfl) (fun _ => rfl) (fun Q' hQ' => t_measure hX (by show 1 ≤ B.1 - 1; omega) (by omega) lL' hN hE2.ok (fun N D C hm => hQ' (N, D, C) (by rw [tL'] at hm; exact hm))) (fun u hu => ?_))
    repeat refine hX ?_
    exact hq L' S' u.1 u.2.1 u.2.2 hE2 hu
  · rw [g6 k (by omega), pre_left (by omega), pre_left (by omega)]
/-- a callee that makes cells -/
theorem cN {X : pX} {B : pB} {me : Nat} {ls : pL} {st : List Value} {h : pH} {Q : pQ} {cid na maxL n : Nat} (ρ : List Nat) (av : List Value) (hc : pH) (k z : Nat) {U : Type} (P : U → Prop) (r : U → Option Value) (h2 : U → pH) (hout : U → pH) (st1 : U → List Value) (h1 : 1 ≤ B.1 ∧ k ≤ B.2.1 ∧ z ≤ B.2.2) (hk : ckC ρ av st na maxL = true) (hh : ρ.map (pg h) = hc.map (fun c => some (rnc ρ c))) (ha : (st.take na).reverse = av.map (rnv ρ))
    (hlen : ∀ u, ρ.length ≤ (h2 u).length) (hput1 : ∀ u, hput (rext ρ h.length (h2 u)) ρ (h2 u) h = hout u) (hst : ∀ u, rpush (rext ρ h.length (h2 u)) (r u) (st.drop na) = st1 u) (hcal : ∀ Q' : pQ, (∀ u, P u → Q' (r u) (h2 u)) → X (B.1 - 1, k, z) cid 0 (pEntry av maxL) [] hc Q') (kk : ∀ u, P u → X (B.1, B.2.1 - k, B.2.2 - z) me n ls (st1 u) (hout u) Q) : oCall cid na maxL n X B me ls st h Q := by
  obtain ⟨k1, k2, k3, k4, k5⟩ := ckC_ok hk
  refine ⟨ρ, av, hc, k, z, fun r' h' => ∃ u, P u ∧ r' = r u ∧ h' = h2 u, ⟨h1, k1, hh, ha, k2, k3, k4, k5⟩, hcal _ (fun u hu => ⟨u, hu, rfl, rfl⟩), ?_⟩
  rintro r' h' ⟨u, hu, rfl, rfl⟩
  refine ⟨hlen u, ?_⟩
  rw [hput1 u, hst u]
  exact kk u hu
theorem t_turn (hX : Cl sc X) (hB : 4 ≤ B.1 ∧ 1 ≤ B.2.1 ∧ 40 ≤ B.2.2) {A Z : List (List Int32)} {u v : List Int32} {i : Nat} (hA : A.length = 2 * i) (hN : N.length = 40 ∧ D.length = 40 ∧ C.length = 40) (hE : EqInv (A ++ u :: v :: Z) L S)
    (hq : ∀ L' S' N' D' C' g, EqInv (A ++ v :: u :: Z) L' S' → mOK (A ++ v :: u :: Z).flatten N' D' C' → Q none (EqW L' S' N' D' C' (nI (A ++ v :: u :: Z).length) (nI (A ++ v :: u :: Z).flatten.length) ++ [.inl g])) : X B 30 0 [some (.ref 0), some (.int (nI i)), none, none, none, none] [] (EqW L S N D C (nI (A ++ u :: v :: Z).length) (nI (A ++ u :: v :: Z).flatten.length)) Q := by
  obtain ⟨⟨g1, g2, g3, g4⟩, g5, g6, g7⟩ := id hE
  have hlen : (A ++ u :: v :: Z).length = (A ++ v :: u :: Z).length := by simp
  have hAl : 2 * i + 2 ≤ (A ++ u :: v :: Z).length := by simp; omega
  have p0 : pre (A ++ u :: v :: Z) (2 * i) = A.flatten.length := by rw [← hA]; have := pre_right (A := A) (W := u :: v :: Z) 0; simpa [pre] using this
  have p1 : pre (A ++ u :: v :: Z) (2 * i + 1) = A.flatten.length + u.length := by rw [← hA, pre_right]; simp [pre]
  have p2 : pre (A ++ u :: v :: Z) (2 * i + 2) = A.flatten.length + u.length + v.length := by rw [← hA, pre_right]; simp [pre]; omega
  have ft : (A ++ u :: v :: Z).flatten.length = A.flatten.length + u.length + v.length + Z.flatten.length := by simp; omega
  have ft2 : (A ++ v :: u :: Z).flatten.length = (A ++ u :: v :: Z).flatten.length := by simp; omega
  repeat refine hX ?_
  refine And.intro trivial (cP [0, 1, 2, 3, 4, 5] [.ref 0, .int (nI i)] (EqW L S N D C (nI (A ++ u :: v :: Z).length) (nI (A ++ u :: v :: Z).flatten.length)) (some (.int (hsI (nI i) ((A ++ u :: v :: Z).length / 2)))) [.int (hsI (nI i) ((A ++ u :: v :: Z).length / 2))] (by omega) rfl rfl rfl rfl (fun Q' hQ' => t_has hX (by show 1 ≤ B.1 - 1; omega) (by omega) hQ') ?_)
  rw [hsI_in (by omega) (by omega)]
  refine hX (And.intro (fun h1 => absurd h1 (by decide)) (fun _ => ?_))
  repeat refine hX ?_
  rw [show (2 : Int32) * nI i = nI (2 * i) from nmul 2 i]
  refine And.intro (vp_in_nI (by omega) (by omega)) ?_
  rw [nI_clamp (by omega), g6 (2 * i) (by omega), p0]
  repeat refine hX ?_
  rw [show (2 : Int32) * nI i = nI (2 * i) from nmul 2 i, show nI (2 * i) + 1 = nI (2 * i + 1) from nadd _ 1]
  refine And.intro (vp_in_nI (by omega) (by omega)) ?_
  rw [nI_clamp (by omega), g6 (2 * i + 1) (by omega), p1]
  repeat refine hX ?_
  rw [show (2 : Int32) * nI i = nI (2 * i) from nmul 2 i, show nI (2 * i) + 2 = nI (2 * i + 2) from nadd _ 2]
  refine And.intro (vp_in_nI (by omega) (by omega)) ?_
  rw [nI_clamp (by omega), g6 (2 * i + 2) (by omega), p2]
  repeat refine hX ?_
  refine And.intro ⟨by rw [nI_clamp (by omega), nI_clamp (by omega)]; omega, by rw [nI_clamp (by omega)]; omega, nneg (by omega), nneg (by omega), hB.2.1, by rw [nI_clamp (by omega), nI_clamp (by omega)]; omega, hB.1, by show L.length ≤ 134217728; omega⟩ ?_
  rw [nI_clamp (by omega), nI_clamp (by omega), show A.flatten.length + u.length - A.flatten.length = u.length by omega]
  have q1 : L.take A.flatten.length = A.flatten := take_eq (n := (A ++ u :: v :: Z).flatten.length) (b := u ++ (v ++ Z.flatten)) (by rw [g5]; simp)
  have q2 : (L.drop A.flatten.length).take u.length = u := by
    have : (L.take (A ++ u :: v :: Z).flatten.length).drop A.flatten.length = u ++ (v ++ Z.flatten) := by
      rw [g5]; simp
    rw [List.drop_take] at this
    exact take_eq this
  have q3 : (L.drop (A.flatten.length + u.length)).take v.length = v := by
    have : (L.take (A ++ u :: v :: Z).flatten.length).drop (A.flatten.length + u.length) = v ++ Z.flatten := by
      rw [g5, show (A ++ u :: v :: Z).flatten = (A.flatten ++ u) ++ (v ++ Z.flatten) by simp, List.drop_left' (by simp)]
    rw [List.drop_take] at this
    exact take_eq this
  have q4 : (L.drop (A.flatten.length + u.length + v.length)).take Z.flatten.length = Z.flatten := by
    have : (L.take (A ++ u :: v :: Z).flatten.length).drop (A.flatten.length + u.length + v.length) = Z.flatten := by
      rw [g5, show (A ++ u :: v :: Z).flatten = (A.flatten ++ u ++ v) ++ Z.flatten by simp, List.drop_left' (by simp; omega)]
    rw [List.drop_take, show (A ++ u :: v :: Z).flatten.length - (A.flatten.length + u.length + v.length) = Z.flatten.length by omega] at this
    exact this
  rw [q2]
  repeat refine hX ?_
  rw [nsub (by omega), show A.flatten.length + u.length + v.length - (A.flatten.length + u.length) = v.length by omega]
  refine And.intro ⟨⟨by show 1 ≤ B.1; omega, Nat.le_of_ble_eq_true rfl⟩, ⟨nneg (by omega), nneg (by omega), nneg (by omega)⟩, by rw [nI_clamp (by omega), nI_clamp (by omega)]; omega, by rw [nI_clamp (by omega), nI_clamp (by omega)]; omega⟩ ?_
  rw [nI_clamp (by omega), nI_clamp (by omega), nI_clamp (by omega)]
  have eL1 : pCopy L L (A.flatten.length + u.length) A.flatten.length v.length = A.flatten ++ v ++ L.drop (A.flatten.length + v.length) := by rw [pCopy, q1, q3]
  rw [eL1]
  repeat refine hX ?_
  rw [nadd, nsub (by omega), show A.flatten.length + (A.flatten.length + u.length + v.length) - (A.flatten.length + u.length) = A.flatten.length + v.length by omega]
  have lL1 : (A.flatten ++ v ++ L.drop (A.flatten.length + v.length)).length = 40 := by rw [List.length_append, List.length_append, List.length_drop, g1]; omega
  refine And.intro ⟨⟨by show 1 ≤ B.1; omega, Nat.le_of_ble_eq_true rfl⟩, ⟨by decide, nneg (by omega), nneg (by omega)⟩, by rw [nI_clamp (by omega)]; show 0 + _ ≤ _; omega, by rw [nI_clamp (by omega), nI_clamp (by omega), lL1]; omega⟩ ?_
  rw [nI_clamp (by omega), nI_clamp (by omega)]
  have eL2 : pCopy u (A.flatten ++ v ++ L.drop (A.flatten.length + v.length)) (Int32.toNatClampNeg 0) (A.flatten.length + v.length) u.length = A.flatten ++ v ++ u ++ L.drop (A.flatten.length + u.length + v.length) := by
    show pCopy u _ 0 _ _ = _
    rw [pCopy, List.take_left' (by simp), List.drop_zero, List.take_length, List.drop_append, List.drop_eq_nil_of_le (by simp), List.nil_append, List.drop_drop]
    congr 2
    simp
    omega
  rw [eL2]
  repeat refine hX ?_
  rw [show (2 : Int32) * nI i = nI (2 * i) from nmul 2 i, show nI (2 * i) + 1 = nI (2 * i + 1) from nadd _ 1, nadd, nsub (by omega), show A.flatten.length + (A.flatten.length + u.length + v.length) - (A.flatten.length + u.length) = A.flatten.length + v.length by omega]
  refine And.intro (vp_in_nI (by omega) (by omega)) ?_
  rw [nI_clamp (by omega)]
  repeat refine hX ?_
  have hE2 : EqInv (A ++ v :: u :: Z) (A.flatten ++ v ++ u ++ L.drop (A.flatten.length + u.length + v.length)) (S.set (2 * i + 1) (nI (A.flatten.length + v.length))) := by
    refine ⟨⟨by rw [List.length_append, List.length_append, List.length_append, List.length_drop, g1]; omega, by rw [List.length_set]; exact g2, by omega, by omega⟩, ?_, fun k hk => ?_, fun t ht => g7 t ?_⟩
    · have e : (A ++ v :: u :: Z).flatten.length = (A.flatten ++ v ++ u).length + Z.flatten.length := by simp; omega
      rw [e, List.take_length_add_append, q4]
      simp
    · by_cases e : 2 * i + 1 = k
      · subst e
        rw [getD_set_eq (by omega), ← hA, pre_right]
        simp [pre]
      · rw [getD_set_ne e, g6 k (by omega)]
        congr 1
        rcases (show k ≤ A.length ∨ ∃ j, k = A.length + (j + 2) by
          by_cases hk2 : k ≤ A.length
          · exact Or.inl hk2
          · exact Or.inr ⟨k - A.length - 2, by omega⟩) with hk2 | ⟨j, rfl⟩
        · rw [pre_left hk2, pre_left hk2]
        · rw [pre_right, pre_right]
          simp [pre]
          omega
    · rcases List.mem_append.mp ht with h | h
      · exact List.mem_append_left _ h
      · refine List.mem_append_right _ ?_
        rcases List.mem_cons.mp h with rfl | h
        · exact List.mem_cons_of_mem _ List.mem_cons_self
        · rcases List.mem_cons.mp h with rfl | h
          · exact List.mem_cons_self
          · exact List.mem_cons_of_mem _ (List.mem_cons_of_mem _ h)
  rw [hlen, ← ft2]
  generalize A.flatten ++ v ++ u ++ L.drop (A.flatten.length + u.length + v.length) = L2 at hE2 ⊢
  generalize S.set (2 * i + 1) (nI (A.flatten.length + v.length)) = S2 at hE2 ⊢
  obtain ⟨⟨k1, k2, k3, k4⟩, k5, k6, k7⟩ := id hE2
  refine And.intro trivial (cM [0, 1, 2, 3, 4, 5] [.ref 0] (EqW L2 S2 N D C (nI (A ++ v :: u :: Z).length) (nI (A ++ v :: u :: Z).flatten.length)) (fun w : List Int32 × List Int32 × List Int32 => mOK (A ++ v :: u :: Z).flatten w.1 w.2.1 w.2.2) (fun _ => none) (fun w => EqW L2 S2 w.1 w.2.1 w.2.2 (nI (A ++ v :: u :: Z).length) (nI (A ++ v :: u :: Z).flatten.length)) (fun w => EqW L2 S2 w.1 w.2.1 w.2.2 (nI (A ++ v :: u :: Z).length) (nI (A ++ v :: u :: Z).flatten.length) ++ [.inl u]) (fun _ => []) (by show 1 ≤ B.1; omega) rfl rfl rfl (fun _ => rfl) (fun _ => rfl) (fun _ => rfl) (fun Q' hQ' => t_measure hX (by show 1 ≤ B.1 - 1; omega) k4 k1 hN hE2.ok (fun N D C hm => hQ' (N, D, C) (by rw [k5] at hm; exact hm))) (fun w hw => ?_))
  repeat refine hX ?_
  exact hq L2 S2 w.1 w.2.1 w.2.2 u hE2 hw
/-- a new object of Equations -/
theorem t_Equations (hX : Cl sc X) (hB : 1 ≤ B.1 ∧ 5 ≤ B.2.1 ∧ 169 ≤ B.2.2) (hq : Q none (EqW (List.replicate 40 0) (List.replicate 9 0) (List.replicate 40 0) (List.replicate 40 0) (List.replicate 40 0) 0 0)) : X B 14 0 [some (.ref 0)] [] [.inr (2, [.null, .null, .null, .null, .null, .int 0, .int 0])] Q := by
  obtain ⟨b1, b2, b3⟩ := hB
  repeat refine hX ?_
  refine And.intro ⟨b1, Nat.le_of_ble_eq_true rfl⟩ ?_
  repeat refine hX ?_
  refine And.intro (by decide) (And.intro ⟨by decide, by omega, by show 40 ≤ _; omega⟩ ?_)
  repeat refine hX ?_
  refine And.intro (by decide) (And.intro ⟨by decide, by show 1 ≤ B.2.1 - 1; omega, by show 9 ≤ B.2.2 - 40; omega⟩ ?_)
  repeat refine hX ?_
  refine And.intro (by decide) (And.intro ⟨by decide, by show 1 ≤ B.2.1 - 1 - 1; omega, by show 40 ≤ B.2.2 - 40 - 9; omega⟩ ?_)
  repeat refine hX ?_
  refine And.intro (by decide) (And.intro ⟨by decide, by show 1 ≤ B.2.1 - 1 - 1 - 1; omega, by show 40 ≤ B.2.2 - 40 - 9 - 40; omega⟩ ?_)
  repeat refine hX ?_
  refine And.intro (by decide) (And.intro ⟨by decide, by show 1 ≤ B.2.1 - 1 - 1 - 1 - 1; omega, by show 40 ≤ B.2.2 - 40 - 9 - 40 - 40; omega⟩ ?_)
  repeat refine hX ?_
  exact hq
end EQ4
