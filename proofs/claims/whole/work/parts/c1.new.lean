/-! FlexTerms: its constructor. -/
def hmx (ρ ρ' : List Nat) (h2 : pH) : pH → Nat → pH
  | [], _ => (h2.drop ρ.length).map (rnc ρ')
  | c :: r, i => pick1 (fnd ρ h2 i) ρ' c :: hmx ρ ρ' h2 r (i + 1)
theorem fnd_le : ∀ (ρ : List Nat) (h : pH) (i k : Nat), va_nd ρ = true → ρ[k]? = some i → ρ.length ≤ h.length → fnd ρ h i = h[k]?
  | [], h, i, k, _, hk, _ => by simp at hk
  | j :: ρ, [], i, k, _, _, hl => by simp at hl
  | j :: ρ, c :: h, i, 0, hn, hk, hl => by
    cases hk
    rw [fnd]
    have : Nat.beq j j = true := Nat.beq_refl j
    rw [this]; rfl
  | j :: ρ, c :: h, i, k + 1, hn, hk, hl => by
    simp only [va_nd, Bool.and_eq_true, decide_eq_true_eq] at hn
    rw [List.getElem?_cons_succ] at hk ⊢
    rw [fnd]
    cases hb : Nat.beq j i with
    | true =>
      have := Nat.eq_of_beq_eq_true hb
      subst this
      exact absurd (List.mem_of_getElem? hk) hn.1
    | false => exact fnd_le ρ h i k hn.2 hk (by simpa using hl)
theorem hmx_get (ρ ρ' : List Nat) (h2 : pH) : ∀ (h : pH) (i j : Nat), (hmx ρ ρ' h2 h j)[i]? = if i < h.length then (h[i]?).map (fun c => pick1 (fnd ρ h2 (j + i)) ρ' c) else ((h2.drop ρ.length).map (rnc ρ'))[i - h.length]?
  | [], i, j => by simp [hmx]
  | c :: r, 0, j => by simp [hmx]
  | c :: r, i + 1, j => by
    rw [hmx, List.getElem?_cons_succ, List.getElem?_cons_succ, hmx_get ρ ρ' h2 r i (j + 1), show j + 1 + i = j + (i + 1) by omega, List.length_cons, show i + 1 - (r.length + 1) = i - r.length by omega]
    by_cases h : i < r.length
    · rw [if_pos h, if_pos (by omega)]
    · rw [if_neg h, if_neg (by omega)]
theorem hput_hmx {ρ ρ' : List Nat} {h2 h : pH} (hn : va_nd ρ = true) (hl : ρ.length ≤ h2.length) (hρ : ∀ i ∈ ρ, i < h.length) : hput ρ' ρ h2 h = hmx ρ ρ' h2 h 0 := by
  rw [hput_eq]
  apply List.ext_getElem?
  intro i
  rw [hmx_get, Nat.zero_add]
  have hl2 : ρ.length ≤ (h2.map (rnc ρ')).length := by rw [List.length_map]; omega
  by_cases hi : i < h.length
  · rw [if_pos hi]
    by_cases hm : i ∈ ρ
    · obtain ⟨k, hk⟩ := List.getElem?_of_mem hm
      have hkl := (List.getElem?_eq_some_iff.mp hk).1
      rw [lput_at ρ _ h k i hn hk hi hl2, fnd_le ρ h2 i k hn hk hl, List.getElem?_map, List.getElem?_eq_getElem hi, List.getElem?_eq_getElem (by omega)]
      rfl
    · rw [lput_other ρ _ h i hm hi, fnd_none ρ h2 i hm, List.getElem?_eq_getElem hi]
      rfl
  · rw [if_neg hi, lput_new ρ _ h i hl2 (by omega), List.map_drop, List.getElem?_drop]
/-- a callee that makes cells -/
theorem cNU {X : pX} {B : pB} {me : Nat} {ls : pL} {st : List Value} {h : pH} {Q : pQ} {cid na maxL n : Nat} (ρ : List Nat) (av : List Value) (hc : pH) {U : Type} (P : U → Prop) (r : U → Option Value) (h2 : U → pH) (hout : U → pH) (st1 : U → List Value) (k z : Nat) (h1 : 1 ≤ B.1 ∧ k ≤ B.2.1 ∧ z ≤ B.2.2) (hk : ckC ρ av st na maxL = true) (hh : ρ.map (pg h) = hc.map (fun c => some (rnc ρ c))) (ha : (st.take na).reverse = av.map (rnv ρ))
    (hlen : ∀ u, ρ.length ≤ (h2 u).length) (hput1 : ∀ u, hmx ρ (rext ρ h.length (h2 u)) (h2 u) h 0 = hout u) (hst : ∀ u, rpush (rext ρ h.length (h2 u)) (r u) (st.drop na) = st1 u) (hcal : ∀ Q' : pQ, (∀ u, P u → Q' (r u) (h2 u)) → X (B.1 - 1, k, z) cid 0 (pEntry av maxL) [] hc Q') (kk : ∀ u, P u → X (B.1, B.2.1 - k, B.2.2 - z) me n ls (st1 u) (hout u) Q) : oCall cid na maxL n X B me ls st h Q := by
  obtain ⟨k1, k2, k3, k4, k5⟩ := ckC_ok hk
  have hρ : ∀ i ∈ ρ, i < h.length := by
    intro i hi
    obtain ⟨j, hj⟩ := List.getElem?_of_mem hi
    have e : (ρ.map (pg h))[j]? = some (pg h i) := by rw [List.getElem?_map, hj]; rfl
    rw [hh, List.getElem?_map] at e
    cases hcj : hc[j]? with
    | none => rw [hcj] at e; cases e
    | some c0 => rw [hcj] at e; exact pg_lt (Option.some.inj e).symm
  refine ⟨ρ, av, hc, k, z, fun r' h' => ∃ u, P u ∧ r' = r u ∧ h' = h2 u, ⟨h1, k1, hh, ha, k2, k3, k4, k5⟩, hcal _ (fun u hu => ⟨u, hu, rfl, rfl⟩), ?_⟩
  rintro r' h' ⟨u, hu, rfl, rfl⟩
  refine ⟨hlen u, ?_⟩
  rw [hput_hmx k1 (hlen u) hρ, hput1 u, hst u]
  exact kk u hu
theorem cND {X : pX} {B : pB} {me : Nat} {ls : pL} {st : List Value} {h : pH} {Q : pQ} {cid na maxL n : Nat} (ρ : List Nat) (av : List Value) (hc : pH) (h2 : pH) (hout : pH) (st1 : List Value) (k z : Nat) (h1 : 1 ≤ B.1 ∧ k ≤ B.2.1 ∧ z ≤ B.2.2) (hk : ckC ρ av st na maxL = true) (hh : ρ.map (pg h) = hc.map (fun c => some (rnc ρ c))) (ha : (st.take na).reverse = av.map (rnv ρ))
    (hlen : ρ.length ≤ h2.length) (hput1 : hmx ρ (rext ρ h.length h2) h2 h 0 = hout) (hst : st.drop na = st1) (hcal : ∀ Q' : pQ, Q' none h2 → X (B.1 - 1, k, z) cid 0 (pEntry av maxL) [] hc Q') (kk : X (B.1, B.2.1 - k, B.2.2 - z) me n ls st1 hout Q) : oCall cid na maxL n X B me ls st h Q :=
  cNU ρ av hc (fun _ : Unit => True) (fun _ => none) (fun _ => h2) (fun _ => hout) (fun _ => st1) k z h1 hk hh ha (fun _ => hlen) (fun _ => hput1) (fun _ => hst) (fun Q' hQ' => hcal Q' (hQ' () trivial)) (fun _ _ => kk)
section CI
variable {sc : List Int32} {X : pX} {B : pB} {Q : pQ}

theorem t_History (hX : Cl sc X) (hB : 2 ≤ B.1 ∧ 31 ≤ B.2.1 ∧ 885 ≤ B.2.2) (hq : Q none [.inr (4, [.ref 1, .int 0]), .inr (50, [.ref 2, .ref 8, .ref 14, .ref 20, .ref 26]), .inr (2, [.ref 3, .ref 4, .ref 5, .ref 6, .ref 7, .int 0, .int 0]), .inl (List.replicate 40 0), .inl (List.replicate 9 0), .inl (List.replicate 40 0), .inl (List.replicate 40 0), .inl (List.replicate 40 0), .inr (2, [.ref 9, .ref 10, .ref 11, .ref 12, .ref 13, .int 0, .int 0]), .inl (List.replicate 40 0), .inl (List.replicate 9 0), .inl (List.replicate 40 0), .inl (List.replicate 40 0), .inl (List.replicate 40 0), .inr (2, [.ref 15, .ref 16, .ref 17, .ref 18, .ref 19, .int 0, .int 0]), .inl (List.replicate 40 0), .inl (List.replicate 9 0), .inl (List.replicate 40 0), .inl (List.replicate 40 0), .inl (List.replicate 40 0), .inr (2, [.ref 21, .ref 22, .ref 23, .ref 24, .ref 25, .int 0, .int 0]), .inl (List.replicate 40 0), .inl (List.replicate 9 0), .inl (List.replicate 40 0), .inl (List.replicate 40 0), .inl (List.replicate 40 0), .inr (2, [.ref 27, .ref 28, .ref 29, .ref 30, .ref 31, .int 0, .int 0]), .inl (List.replicate 40 0), .inl (List.replicate 9 0), .inl (List.replicate 40 0), .inl (List.replicate 40 0), .inl (List.replicate 40 0)]) : X B 44 0 [some (.ref 0), none] [] [.inr (4, [.null, .int 0])] Q := by
  obtain ⟨b1, b2, b3⟩ := hB
  iterate 2 refine hX ?_
  refine And.intro ⟨by omega, Nat.le_of_ble_eq_true rfl⟩ ?_
  iterate 3 refine hX ?_
  refine And.intro (by decide) (And.intro ⟨by decide, by omega, by show 5 ≤ _; omega⟩ ?_)
  iterate 3 refine hX ?_
  iterate 3 refine hX ?_
  refine And.intro (fun h => absurd h (by decide)) (fun _ => ?_)
  iterate 4 refine hX ?_
  refine And.intro ⟨by show 1 ≤ B.2.1 - 1; omega, by show 7 ≤ B.2.2 - 5; omega⟩ ?_
  iterate 2 refine hX ?_
  refine And.intro trivial (cND [2] [.ref 0] [.inr (2, [.null, .null, .null, .null, .null, .int 0, .int 0])] (EqW (List.replicate 40 0) (List.replicate 9 0) (List.replicate 40 0) (List.replicate 40 0) (List.replicate 40 0) 0 0) [.inr (4, [.ref 1, .int 0]), .inr (50, [.null, .null, .null, .null, .null]), .inr (2, [.ref 3, .ref 4, .ref 5, .ref 6, .ref 7, .int 0, .int 0]), .inl (List.replicate 40 0), .inl (List.replicate 9 0), .inl (List.replicate 40 0), .inl (List.replicate 40 0), .inl (List.replicate 40 0)] [.ref 2, .int (nI 0), .ref 1] 5 169 ⟨by show 1 ≤ B.1; omega, by show 5 ≤ B.2.1 - 1 - 1; omega, by show 169 ≤ B.2.2 - 5 - 7; omega⟩ rfl rfl rfl (by decide) rfl rfl (fun Q' hQ' => t_Equations hX ⟨by show 1 ≤ B.1 - 1; omega, Nat.le_refl _, Nat.le_refl _⟩ hQ') ?_)
  refine hX ?_
  refine And.intro (vp_in_nI (n := 0) (N := 5) (by decide) (by decide)) ?_
  iterate 2 refine hX ?_
  iterate 3 refine hX ?_
  refine And.intro (fun h => absurd h (by decide)) (fun _ => ?_)
  iterate 4 refine hX ?_
  refine And.intro ⟨by show 1 ≤ B.2.1 - 1 - 1 - 5; omega, by show 7 ≤ B.2.2 - 5 - 7 - 169; omega⟩ ?_
  iterate 2 refine hX ?_
  refine And.intro trivial (cND [8] [.ref 0] [.inr (2, [.null, .null, .null, .null, .null, .int 0, .int 0])] (EqW (List.replicate 40 0) (List.replicate 9 0) (List.replicate 40 0) (List.replicate 40 0) (List.replicate 40 0) 0 0) [.inr (4, [.ref 1, .int 0]), .inr (50, [.ref 2, .null, .null, .null, .null]), .inr (2, [.ref 3, .ref 4, .ref 5, .ref 6, .ref 7, .int 0, .int 0]), .inl (List.replicate 40 0), .inl (List.replicate 9 0), .inl (List.replicate 40 0), .inl (List.replicate 40 0), .inl (List.replicate 40 0), .inr (2, [.ref 9, .ref 10, .ref 11, .ref 12, .ref 13, .int 0, .int 0]), .inl (List.replicate 40 0), .inl (List.replicate 9 0), .inl (List.replicate 40 0), .inl (List.replicate 40 0), .inl (List.replicate 40 0)] [.ref 8, .int (nI 1), .ref 1] 5 169 ⟨by show 1 ≤ B.1; omega, by show 5 ≤ B.2.1 - 1 - 1 - 5 - 1; omega, by show 169 ≤ B.2.2 - 5 - 7 - 169 - 7; omega⟩ rfl rfl rfl (by decide) rfl rfl (fun Q' hQ' => t_Equations hX ⟨by show 1 ≤ B.1 - 1; omega, Nat.le_refl _, Nat.le_refl _⟩ hQ') ?_)
  refine hX ?_
  refine And.intro (vp_in_nI (n := 1) (N := 5) (by decide) (by decide)) ?_
  iterate 2 refine hX ?_
  iterate 3 refine hX ?_
  refine And.intro (fun h => absurd h (by decide)) (fun _ => ?_)
  iterate 4 refine hX ?_
  refine And.intro ⟨by show 1 ≤ B.2.1 - 1 - 1 - 5 - 1 - 5; omega, by show 7 ≤ B.2.2 - 5 - 7 - 169 - 7 - 169; omega⟩ ?_
  iterate 2 refine hX ?_
  refine And.intro trivial (cND [14] [.ref 0] [.inr (2, [.null, .null, .null, .null, .null, .int 0, .int 0])] (EqW (List.replicate 40 0) (List.replicate 9 0) (List.replicate 40 0) (List.replicate 40 0) (List.replicate 40 0) 0 0) [.inr (4, [.ref 1, .int 0]), .inr (50, [.ref 2, .ref 8, .null, .null, .null]), .inr (2, [.ref 3, .ref 4, .ref 5, .ref 6, .ref 7, .int 0, .int 0]), .inl (List.replicate 40 0), .inl (List.replicate 9 0), .inl (List.replicate 40 0), .inl (List.replicate 40 0), .inl (List.replicate 40 0), .inr (2, [.ref 9, .ref 10, .ref 11, .ref 12, .ref 13, .int 0, .int 0]), .inl (List.replicate 40 0), .inl (List.replicate 9 0), .inl (List.replicate 40 0), .inl (List.replicate 40 0), .inl (List.replicate 40 0), .inr (2, [.ref 15, .ref 16, .ref 17, .ref 18, .ref 19, .int 0, .int 0]), .inl (List.replicate 40 0), .inl (List.replicate 9 0), .inl (List.replicate 40 0), .inl (List.replicate 40 0), .inl (List.replicate 40 0)] [.ref 14, .int (nI 2), .ref 1] 5 169 ⟨by show 1 ≤ B.1; omega, by show 5 ≤ B.2.1 - 1 - 1 - 5 - 1 - 5 - 1; omega, by show 169 ≤ B.2.2 - 5 - 7 - 169 - 7 - 169 - 7; omega⟩ rfl rfl rfl (by decide) rfl rfl (fun Q' hQ' => t_Equations hX ⟨by show 1 ≤ B.1 - 1; omega, Nat.le_refl _, Nat.le_refl _⟩ hQ') ?_)
  refine hX ?_
  refine And.intro (vp_in_nI (n := 2) (N := 5) (by decide) (by decide)) ?_
  iterate 2 refine hX ?_
  iterate 3 refine hX ?_
  refine And.intro (fun h => absurd h (by decide)) (fun _ => ?_)
  iterate 4 refine hX ?_
  refine And.intro ⟨by show 1 ≤ B.2.1 - 1 - 1 - 5 - 1 - 5 - 1 - 5; omega, by show 7 ≤ B.2.2 - 5 - 7 - 169 - 7 - 169 - 7 - 169; omega⟩ ?_
  iterate 2 refine hX ?_
  refine And.intro trivial (cND [20] [.ref 0] [.inr (2, [.null, .null, .null, .null, .null, .int 0, .int 0])] (EqW (List.replicate 40 0) (List.replicate 9 0) (List.replicate 40 0) (List.replicate 40 0) (List.replicate 40 0) 0 0) [.inr (4, [.ref 1, .int 0]), .inr (50, [.ref 2, .ref 8, .ref 14, .null, .null]), .inr (2, [.ref 3, .ref 4, .ref 5, .ref 6, .ref 7, .int 0, .int 0]), .inl (List.replicate 40 0), .inl (List.replicate 9 0), .inl (List.replicate 40 0), .inl (List.replicate 40 0), .inl (List.replicate 40 0), .inr (2, [.ref 9, .ref 10, .ref 11, .ref 12, .ref 13, .int 0, .int 0]), .inl (List.replicate 40 0), .inl (List.replicate 9 0), .inl (List.replicate 40 0), .inl (List.replicate 40 0), .inl (List.replicate 40 0), .inr (2, [.ref 15, .ref 16, .ref 17, .ref 18, .ref 19, .int 0, .int 0]), .inl (List.replicate 40 0), .inl (List.replicate 9 0), .inl (List.replicate 40 0), .inl (List.replicate 40 0), .inl (List.replicate 40 0), .inr (2, [.ref 21, .ref 22, .ref 23, .ref 24, .ref 25, .int 0, .int 0]), .inl (List.replicate 40 0), .inl (List.replicate 9 0), .inl (List.replicate 40 0), .inl (List.replicate 40 0), .inl (List.replicate 40 0)] [.ref 20, .int (nI 3), .ref 1] 5 169 ⟨by show 1 ≤ B.1; omega, by show 5 ≤ B.2.1 - 1 - 1 - 5 - 1 - 5 - 1 - 5 - 1; omega, by show 169 ≤ B.2.2 - 5 - 7 - 169 - 7 - 169 - 7 - 169 - 7; omega⟩ rfl rfl rfl (by decide) rfl rfl (fun Q' hQ' => t_Equations hX ⟨by show 1 ≤ B.1 - 1; omega, Nat.le_refl _, Nat.le_refl _⟩ hQ') ?_)
  refine hX ?_
  refine And.intro (vp_in_nI (n := 3) (N := 5) (by decide) (by decide)) ?_
  iterate 2 refine hX ?_
  iterate 3 refine hX ?_
  refine And.intro (fun h => absurd h (by decide)) (fun _ => ?_)
  iterate 4 refine hX ?_
  refine And.intro ⟨by show 1 ≤ B.2.1 - 1 - 1 - 5 - 1 - 5 - 1 - 5 - 1 - 5; omega, by show 7 ≤ B.2.2 - 5 - 7 - 169 - 7 - 169 - 7 - 169 - 7 - 169; omega⟩ ?_
  iterate 2 refine hX ?_
  refine And.intro trivial (cND [26] [.ref 0] [.inr (2, [.null, .null, .null, .null, .null, .int 0, .int 0])] (EqW (List.replicate 40 0) (List.replicate 9 0) (List.replicate 40 0) (List.replicate 40 0) (List.replicate 40 0) 0 0) [.inr (4, [.ref 1, .int 0]), .inr (50, [.ref 2, .ref 8, .ref 14, .ref 20, .null]), .inr (2, [.ref 3, .ref 4, .ref 5, .ref 6, .ref 7, .int 0, .int 0]), .inl (List.replicate 40 0), .inl (List.replicate 9 0), .inl (List.replicate 40 0), .inl (List.replicate 40 0), .inl (List.replicate 40 0), .inr (2, [.ref 9, .ref 10, .ref 11, .ref 12, .ref 13, .int 0, .int 0]), .inl (List.replicate 40 0), .inl (List.replicate 9 0), .inl (List.replicate 40 0), .inl (List.replicate 40 0), .inl (List.replicate 40 0), .inr (2, [.ref 15, .ref 16, .ref 17, .ref 18, .ref 19, .int 0, .int 0]), .inl (List.replicate 40 0), .inl (List.replicate 9 0), .inl (List.replicate 40 0), .inl (List.replicate 40 0), .inl (List.replicate 40 0), .inr (2, [.ref 21, .ref 22, .ref 23, .ref 24, .ref 25, .int 0, .int 0]), .inl (List.replicate 40 0), .inl (List.replicate 9 0), .inl (List.replicate 40 0), .inl (List.replicate 40 0), .inl (List.replicate 40 0), .inr (2, [.ref 27, .ref 28, .ref 29, .ref 30, .ref 31, .int 0, .int 0]), .inl (List.replicate 40 0), .inl (List.replicate 9 0), .inl (List.replicate 40 0), .inl (List.replicate 40 0), .inl (List.replicate 40 0)] [.ref 26, .int (nI 4), .ref 1] 5 169 ⟨by show 1 ≤ B.1; omega, by show 5 ≤ B.2.1 - 1 - 1 - 5 - 1 - 5 - 1 - 5 - 1 - 5 - 1; omega, by show 169 ≤ B.2.2 - 5 - 7 - 169 - 7 - 169 - 7 - 169 - 7 - 169 - 7; omega⟩ rfl rfl rfl (by decide) rfl rfl (fun Q' hQ' => t_Equations hX ⟨by show 1 ≤ B.1 - 1; omega, Nat.le_refl _, Nat.le_refl _⟩ hQ') ?_)
  refine hX ?_
  refine And.intro (vp_in_nI (n := 4) (N := 5) (by decide) (by decide)) ?_
  iterate 2 refine hX ?_
  iterate 3 refine hX ?_
  refine And.intro (fun _ => ?_) (fun h => absurd (by decide) h)
  refine hX ?_
  exact hq
theorem t_Pairs0 (hX : Cl sc X) {L S N D C : List Int32} {sd tt : Int32} (hB : 1 ≤ B.1 ∧ 2 ≤ B.2.1 ∧ 40 ≤ B.2.2) (hq : Q none (PaW L S N D C sd tt (List.replicate 20 0) (List.replicate 20 0) 0)) : X B 51 0 [some (.ref 0), some (.ref 1)] [] [.inr (6, [.null, .null, .null, .int 0]), .inr (2, [.ref 2, .ref 3, .ref 4, .ref 5, .ref 6, .int sd, .int tt]), .inl L, .inl S, .inl N, .inl D, .inl C] Q := by
  obtain ⟨b1, b2, b3⟩ := hB
  iterate 2 refine hX ?_
  refine And.intro ⟨by omega, Nat.le_of_ble_eq_true rfl⟩ ?_
  iterate 3 refine hX ?_
  refine And.intro (by decide) (And.intro ⟨by decide, by omega, by show 20 ≤ _; omega⟩ ?_)
  iterate 4 refine hX ?_
  refine And.intro (by decide) (And.intro ⟨by decide, by show 1 ≤ B.2.1 - 1; omega, by show 20 ≤ B.2.2 - 20; omega⟩ ?_)
  iterate 5 refine hX ?_
  exact hq
theorem t_Growth0 (hX : Cl sc X) {L S N D C : List Int32} {sd tt : Int32} (hB : 5 ≤ B.1 ∧ 10 ≤ B.2.1 ∧ 8204 ≤ B.2.2) (hq : ∀ w p o t, chR bs0 w p o t → Q none (GrW L S N D C sd tt w p o t (List.replicate 40 0) (List.replicate 40 0) (List.replicate 40 0) (List.replicate 40 0) (List.replicate 8000 0) 0)) : X B 32 0 [some (.ref 0), some (.ref 1)] [] [.inr (3, [.null, .null, .null, .null, .null, .null, .null, .int 0]), .inr (2, [.ref 2, .ref 3, .ref 4, .ref 5, .ref 6, .int sd, .int tt]), .inl L, .inl S, .inl N, .inl D, .inl C] Q := by
  obtain ⟨b1, b2, b3⟩ := hB
  iterate 2 refine hX ?_
  refine And.intro ⟨by omega, Nat.le_of_ble_eq_true rfl⟩ ?_
  iterate 2 refine hX ?_
  refine And.intro ⟨by omega, by show 4 ≤ _; omega⟩ ?_
  iterate 2 refine hX ?_
  refine And.intro trivial (cNU [7] [.ref 0] [.inr (1, [.null, .null, .null, .null])] (fun u : List Int32 × List Int32 × List Int32 × List Int32 => chR bs0 u.1 u.2.1 u.2.2.1 u.2.2.2) (fun _ => none) (fun u => ChW u.1 u.2.1 u.2.2.1 u.2.2.2) (fun u => [.inr (3, [.null, .null, .null, .null, .null, .null, .null, .int 0]), .inr (2, [.ref 2, .ref 3, .ref 4, .ref 5, .ref 6, .int sd, .int tt]), .inl L, .inl S, .inl N, .inl D, .inl C, .inr (1, [.ref 8, .ref 9, .ref 10, .ref 11]), .inl u.1, .inl u.2.1, .inl u.2.2.1, .inl u.2.2.2]) (fun _ => [.ref 7, .ref 0]) 4 40 ⟨by show 1 ≤ B.1; omega, by show 4 ≤ B.2.1 - 1; omega, by show 40 ≤ B.2.2 - 4; omega⟩ rfl rfl rfl (fun _ => by show 1 ≤ 5; decide) (fun _ => rfl) (fun _ => rfl) (fun Q' hQ' => t_Choice hX ⟨by show 3 ≤ B.1 - 1; omega, Nat.le_refl _, Nat.le_refl _⟩ (fun w p o t h => hQ' (w, p, o, t) h)) (fun u hu => ?_))
  obtain ⟨w, p, o, t⟩ := u
  dsimp only at hu ⊢

  iterate 4 refine hX ?_
  refine And.intro (by decide) (And.intro ⟨by decide, by show 1 ≤ B.2.1 - 1 - 4; omega, by show 40 ≤ B.2.2 - 4 - 40; omega⟩ ?_)
  iterate 4 refine hX ?_
  refine And.intro (by decide) (And.intro ⟨by decide, by show 1 ≤ B.2.1 - 1 - 4 - 1; omega, by show 40 ≤ B.2.2 - 4 - 40 - 40; omega⟩ ?_)
  iterate 4 refine hX ?_
  refine And.intro (by decide) (And.intro ⟨by decide, by show 1 ≤ B.2.1 - 1 - 4 - 1 - 1; omega, by show 40 ≤ B.2.2 - 4 - 40 - 40 - 40; omega⟩ ?_)
  iterate 4 refine hX ?_
  refine And.intro (by decide) (And.intro ⟨by decide, by show 1 ≤ B.2.1 - 1 - 4 - 1 - 1 - 1; omega, by show 40 ≤ B.2.2 - 4 - 40 - 40 - 40 - 40; omega⟩ ?_)
  iterate 4 refine hX ?_
  refine And.intro (by decide) (And.intro ⟨by decide, by show 1 ≤ B.2.1 - 1 - 4 - 1 - 1 - 1 - 1; omega, by show 8000 ≤ B.2.2 - 4 - 40 - 40 - 40 - 40 - 40; omega⟩ ?_)
  iterate 5 refine hX ?_
  exact hq w p o t hu
theorem t_Search0 (hX : Cl sc X) {L S N D C : List Int32} {sd tt : Int32} {lf rt : List Int32} {cn : Int32} {bw bf : List Int32} {bn : Int32} {w p o t kn sn sz pl gw : List Int32} {us : Int32} (hB : 1 ≤ B.1 ∧ 3 ≤ B.2.1 ∧ 266 ≤ B.2.2) (hq : Q none (SeW L S N D C sd tt lf rt cn bw bf bn w p o t kn sn sz pl gw us (List.replicate 6 0) (List.replicate 20 0) (List.replicate 240 0) 0 0 0)) : X B 62 0 [some (.ref 0), some (.ref 1), some (.ref 7), some (.ref 10), some (.ref 13)] [] [.inr (7, [.null, .null, .null, .null, .null, .null, .null, .int 0, .int 0, .int 0]), .inr (2, [.ref 2, .ref 3, .ref 4, .ref 5, .ref 6, .int sd, .int tt]), .inl L, .inl S, .inl N, .inl D, .inl C, .inr (6, [.ref 1, .ref 8, .ref 9, .int cn]), .inl lf, .inl rt, .inr (0, [.ref 11, .ref 12, .int bn]), .inl bw, .inl bf, .inr (3, [.ref 1, .ref 14, .ref 19, .ref 20, .ref 21, .ref 22, .ref 23, .int us]), .inr (1, [.ref 15, .ref 16, .ref 17, .ref 18]), .inl w, .inl p, .inl o, .inl t, .inl kn, .inl sn, .inl sz, .inl pl, .inl gw] Q := by
  obtain ⟨b1, b2, b3⟩ := hB
  iterate 2 refine hX ?_
  refine And.intro ⟨by omega, Nat.le_of_ble_eq_true rfl⟩ ?_
  iterate 3 refine hX ?_
  refine And.intro (by decide) (And.intro ⟨by decide, by omega, by show 6 ≤ _; omega⟩ ?_)
  iterate 4 refine hX ?_
  refine And.intro (by decide) (And.intro ⟨by decide, by show 1 ≤ B.2.1 - 1; omega, by show 20 ≤ B.2.2 - 6; omega⟩ ?_)
  iterate 4 refine hX ?_
  refine And.intro (by decide) (And.intro ⟨by decide, by show 1 ≤ B.2.1 - 1 - 1; omega, by show 240 ≤ B.2.2 - 6 - 20; omega⟩ ?_)
  iterate 14 refine hX ?_
  exact hq

def e7z : Eq7 := (List.replicate 40 0, List.replicate 9 0, List.replicate 40 0, List.replicate 40 0, List.replicate 40 0, 0, 0)
theorem rep_get {n k : Nat} : (List.replicate n (0 : Int32)).getD k 0 = 0 := by
  rw [List.getD_eq_getElem?_getD]
  by_cases h : k < n
  · rw [List.getElem?_replicate_of_lt h]; rfl
  · rw [List.getElem?_eq_none (by rw [List.length_replicate]; omega)]; rfl
theorem e7z_ok : len7 e7z := ⟨⟨List.length_replicate, List.length_replicate⟩, List.length_replicate, List.length_replicate, List.length_replicate⟩
theorem gE_nil : gE [] := ⟨⟨by simp, by simp, rfl⟩, fun t ht => by simp at ht, fun c hc => by simp at hc⟩
theorem EqInv_nil : EqInv [] (List.replicate 40 0) (List.replicate 9 0) := ⟨⟨List.length_replicate, List.length_replicate, by simp, by simp⟩, rfl, fun k hk => by rw [show k = 0 by simpa using hk]; rfl, fun t ht => by simp at ht⟩
set_option maxHeartbeats 2000000 in
theorem f_new (hX : Cl sc X) (hB : 12 ≤ B.1 ∧ 71 ≤ B.2.1 ∧ 12000 ≤ B.2.2) (hq : ∀ f, FIf ([], [], [], 0, 0, 0) f → Q none (FWf fr0 f [])) : X B 90 0 [some (.ref 0)] [] [.inr (10, [.null, .null, .null, .null, .null, .null, .null, .null, .null, .int 0, .int 0, .int 0])] Q := by
  obtain ⟨b1, b2, b3⟩ := hB
  iterate 2 refine hX ?_
  refine And.intro ⟨by omega, Nat.le_of_ble_eq_true rfl⟩ ?_
  iterate 2 refine hX ?_
  refine And.intro ⟨by show 1 ≤ B.2.1; omega, by show 5 ≤ B.2.2; omega⟩ ?_
  iterate 2 refine hX ?_
  refine And.intro trivial (cND [1] [.ref 0] [.inr (8, [.null, .null, .int 0, .int 0, .int 0])] (Tx0 (List.replicate 120 0) (List.replicate 40 0) 0 0 0) [.inr (10, [.null, .null, .null, .null, .null, .null, .null, .null, .null, .int 0, .int 0, .int 0]), .inr (8, [.ref 2, .ref 3, .int 0, .int 0, .int 0]), .inl (List.replicate 120 0), .inl (List.replicate 40 0)] [.ref 1, .ref 0] 2 160 ⟨by show 1 ≤ B.1; omega, by show 2 ≤ B.2.1 - 1; omega, by show 160 ≤ B.2.2 - 5; omega⟩ rfl rfl rfl (by decide) rfl rfl (fun Q' hQ' => t_Text hX ⟨by show 1 ≤ B.1 - 1; omega, Nat.le_refl _, Nat.le_refl _⟩ hQ') ?_)
  iterate 3 refine hX ?_
  refine And.intro ⟨by show 1 ≤ B.2.1 - 1 - 2; omega, by show 7 ≤ B.2.2 - 5 - 160; omega⟩ ?_
  iterate 2 refine hX ?_
  refine And.intro trivial (cND [4] [.ref 0] [.inr (2, [.null, .null, .null, .null, .null, .int 0, .int 0])] (EqW (List.replicate 40 0) (List.replicate 9 0) (List.replicate 40 0) (List.replicate 40 0) (List.replicate 40 0) 0 0) [.inr (10, [.ref 1, .null, .null, .null, .null, .null, .null, .null, .null, .int 0, .int 0, .int 0]), .inr (8, [.ref 2, .ref 3, .int 0, .int 0, .int 0]), .inl (List.replicate 120 0), .inl (List.replicate 40 0), .inr (2, [.ref 5, .ref 6, .ref 7, .ref 8, .ref 9, .int 0, .int 0]), .inl (List.replicate 40 0), .inl (List.replicate 9 0), .inl (List.replicate 40 0), .inl (List.replicate 40 0), .inl (List.replicate 40 0)] [.ref 4, .ref 0] 5 169 ⟨by show 1 ≤ B.1; omega, by show 5 ≤ B.2.1 - 1 - 2 - 1; omega, by show 169 ≤ B.2.2 - 5 - 160 - 7; omega⟩ rfl rfl rfl (by decide) rfl rfl (fun Q' hQ' => t_Equations hX ⟨by show 1 ≤ B.1 - 1; omega, Nat.le_refl _, Nat.le_refl _⟩ hQ') ?_)
  iterate 3 refine hX ?_
  refine And.intro ⟨by show 1 ≤ B.2.1 - 1 - 2 - 1 - 5; omega, by show 7 ≤ B.2.2 - 5 - 160 - 7 - 169; omega⟩ ?_
  iterate 2 refine hX ?_
  refine And.intro trivial (cND [10] [.ref 0] [.inr (2, [.null, .null, .null, .null, .null, .int 0, .int 0])] (EqW (List.replicate 40 0) (List.replicate 9 0) (List.replicate 40 0) (List.replicate 40 0) (List.replicate 40 0) 0 0) [.inr (10, [.ref 1, .ref 4, .null, .null, .null, .null, .null, .null, .null, .int 0, .int 0, .int 0]), .inr (8, [.ref 2, .ref 3, .int 0, .int 0, .int 0]), .inl (List.replicate 120 0), .inl (List.replicate 40 0), .inr (2, [.ref 5, .ref 6, .ref 7, .ref 8, .ref 9, .int 0, .int 0]), .inl (List.replicate 40 0), .inl (List.replicate 9 0), .inl (List.replicate 40 0), .inl (List.replicate 40 0), .inl (List.replicate 40 0), .inr (2, [.ref 11, .ref 12, .ref 13, .ref 14, .ref 15, .int 0, .int 0]), .inl (List.replicate 40 0), .inl (List.replicate 9 0), .inl (List.replicate 40 0), .inl (List.replicate 40 0), .inl (List.replicate 40 0)] [.ref 10, .ref 0] 5 169 ⟨by show 1 ≤ B.1; omega, by show 5 ≤ B.2.1 - 1 - 2 - 1 - 5 - 1; omega, by show 169 ≤ B.2.2 - 5 - 160 - 7 - 169 - 7; omega⟩ rfl rfl rfl (by decide) rfl rfl (fun Q' hQ' => t_Equations hX ⟨by show 1 ≤ B.1 - 1; omega, Nat.le_refl _, Nat.le_refl _⟩ hQ') ?_)
  iterate 3 refine hX ?_
  refine And.intro ⟨by show 1 ≤ B.2.1 - 1 - 2 - 1 - 5 - 1 - 5; omega, by show 2 ≤ B.2.2 - 5 - 160 - 7 - 169 - 7 - 169; omega⟩ ?_
  iterate 2 refine hX ?_
  refine And.intro trivial (cND [16] [.ref 0] [.inr (4, [.null, .int 0])] [.inr (4, [.ref 1, .int 0]), .inr (50, [.ref 2, .ref 8, .ref 14, .ref 20, .ref 26]), .inr (2, [.ref 3, .ref 4, .ref 5, .ref 6, .ref 7, .int 0, .int 0]), .inl (List.replicate 40 0), .inl (List.replicate 9 0), .inl (List.replicate 40 0), .inl (List.replicate 40 0), .inl (List.replicate 40 0), .inr (2, [.ref 9, .ref 10, .ref 11, .ref 12, .ref 13, .int 0, .int 0]), .inl (List.replicate 40 0), .inl (List.replicate 9 0), .inl (List.replicate 40 0), .inl (List.replicate 40 0), .inl (List.replicate 40 0), .inr (2, [.ref 15, .ref 16, .ref 17, .ref 18, .ref 19, .int 0, .int 0]), .inl (List.replicate 40 0), .inl (List.replicate 9 0), .inl (List.replicate 40 0), .inl (List.replicate 40 0), .inl (List.replicate 40 0), .inr (2, [.ref 21, .ref 22, .ref 23, .ref 24, .ref 25, .int 0, .int 0]), .inl (List.replicate 40 0), .inl (List.replicate 9 0), .inl (List.replicate 40 0), .inl (List.replicate 40 0), .inl (List.replicate 40 0), .inr (2, [.ref 27, .ref 28, .ref 29, .ref 30, .ref 31, .int 0, .int 0]), .inl (List.replicate 40 0), .inl (List.replicate 9 0), .inl (List.replicate 40 0), .inl (List.replicate 40 0), .inl (List.replicate 40 0)] [.inr (10, [.ref 1, .ref 4, .ref 10, .null, .null, .null, .null, .null, .null, .int 0, .int 0, .int 0]), .inr (8, [.ref 2, .ref 3, .int 0, .int 0, .int 0]), .inl (List.replicate 120 0), .inl (List.replicate 40 0), .inr (2, [.ref 5, .ref 6, .ref 7, .ref 8, .ref 9, .int 0, .int 0]), .inl (List.replicate 40 0), .inl (List.replicate 9 0), .inl (List.replicate 40 0), .inl (List.replicate 40 0), .inl (List.replicate 40 0), .inr (2, [.ref 11, .ref 12, .ref 13, .ref 14, .ref 15, .int 0, .int 0]), .inl (List.replicate 40 0), .inl (List.replicate 9 0), .inl (List.replicate 40 0), .inl (List.replicate 40 0), .inl (List.replicate 40 0), .inr (4, [.ref 17, .int 0]), .inr (50, [.ref 18, .ref 24, .ref 30, .ref 36, .ref 42]), .inr (2, [.ref 19, .ref 20, .ref 21, .ref 22, .ref 23, .int 0, .int 0]), .inl (List.replicate 40 0), .inl (List.replicate 9 0), .inl (List.replicate 40 0), .inl (List.replicate 40 0), .inl (List.replicate 40 0), .inr (2, [.ref 25, .ref 26, .ref 27, .ref 28, .ref 29, .int 0, .int 0]), .inl (List.replicate 40 0), .inl (List.replicate 9 0), .inl (List.replicate 40 0), .inl (List.replicate 40 0), .inl (List.replicate 40 0), .inr (2, [.ref 31, .ref 32, .ref 33, .ref 34, .ref 35, .int 0, .int 0]), .inl (List.replicate 40 0), .inl (List.replicate 9 0), .inl (List.replicate 40 0), .inl (List.replicate 40 0), .inl (List.replicate 40 0), .inr (2, [.ref 37, .ref 38, .ref 39, .ref 40, .ref 41, .int 0, .int 0]), .inl (List.replicate 40 0), .inl (List.replicate 9 0), .inl (List.replicate 40 0), .inl (List.replicate 40 0), .inl (List.replicate 40 0), .inr (2, [.ref 43, .ref 44, .ref 45, .ref 46, .ref 47, .int 0, .int 0]), .inl (List.replicate 40 0), .inl (List.replicate 9 0), .inl (List.replicate 40 0), .inl (List.replicate 40 0), .inl (List.replicate 40 0)] [.ref 16, .ref 0] 31 885 ⟨by show 1 ≤ B.1; omega, by show 31 ≤ B.2.1 - 1 - 2 - 1 - 5 - 1 - 5 - 1; omega, by show 885 ≤ B.2.2 - 5 - 160 - 7 - 169 - 7 - 169 - 2; omega⟩ rfl rfl rfl (by decide) rfl rfl (fun Q' hQ' => t_History hX ⟨by show 2 ≤ B.1 - 1; omega, Nat.le_refl _, Nat.le_refl _⟩ hQ') ?_)
  iterate 3 refine hX ?_
  refine And.intro ⟨by show 1 ≤ B.2.1 - 1 - 2 - 1 - 5 - 1 - 5 - 1 - 31; omega, by show 4 ≤ B.2.2 - 5 - 160 - 7 - 169 - 7 - 169 - 2 - 885; omega⟩ ?_
  iterate 4 refine hX ?_
  refine And.intro trivial (cND [48, 4, 5, 6, 7, 8, 9] [.ref 0, .ref 1] [.inr (6, [.null, .null, .null, .int 0]), .inr (2, [.ref 2, .ref 3, .ref 4, .ref 5, .ref 6, .int 0, .int 0]), .inl (List.replicate 40 0), .inl (List.replicate 9 0), .inl (List.replicate 40 0), .inl (List.replicate 40 0), .inl (List.replicate 40 0)] (PaW (List.replicate 40 0) (List.replicate 9 0) (List.replicate 40 0) (List.replicate 40 0) (List.replicate 40 0) 0 0 (List.replicate 20 0) (List.replicate 20 0) 0) [.inr (10, [.ref 1, .ref 4, .ref 10, .ref 16, .null, .null, .null, .null, .null, .int 0, .int 0, .int 0]), .inr (8, [.ref 2, .ref 3, .int 0, .int 0, .int 0]), .inl (List.replicate 120 0), .inl (List.replicate 40 0), .inr (2, [.ref 5, .ref 6, .ref 7, .ref 8, .ref 9, .int 0, .int 0]), .inl (List.replicate 40 0), .inl (List.replicate 9 0), .inl (List.replicate 40 0), .inl (List.replicate 40 0), .inl (List.replicate 40 0), .inr (2, [.ref 11, .ref 12, .ref 13, .ref 14, .ref 15, .int 0, .int 0]), .inl (List.replicate 40 0), .inl (List.replicate 9 0), .inl (List.replicate 40 0), .inl (List.replicate 40 0), .inl (List.replicate 40 0), .inr (4, [.ref 17, .int 0]), .inr (50, [.ref 18, .ref 24, .ref 30, .ref 36, .ref 42]), .inr (2, [.ref 19, .ref 20, .ref 21, .ref 22, .ref 23, .int 0, .int 0]), .inl (List.replicate 40 0), .inl (List.replicate 9 0), .inl (List.replicate 40 0), .inl (List.replicate 40 0), .inl (List.replicate 40 0), .inr (2, [.ref 25, .ref 26, .ref 27, .ref 28, .ref 29, .int 0, .int 0]), .inl (List.replicate 40 0), .inl (List.replicate 9 0), .inl (List.replicate 40 0), .inl (List.replicate 40 0), .inl (List.replicate 40 0), .inr (2, [.ref 31, .ref 32, .ref 33, .ref 34, .ref 35, .int 0, .int 0]), .inl (List.replicate 40 0), .inl (List.replicate 9 0), .inl (List.replicate 40 0), .inl (List.replicate 40 0), .inl (List.replicate 40 0), .inr (2, [.ref 37, .ref 38, .ref 39, .ref 40, .ref 41, .int 0, .int 0]), .inl (List.replicate 40 0), .inl (List.replicate 9 0), .inl (List.replicate 40 0), .inl (List.replicate 40 0), .inl (List.replicate 40 0), .inr (2, [.ref 43, .ref 44, .ref 45, .ref 46, .ref 47, .int 0, .int 0]), .inl (List.replicate 40 0), .inl (List.replicate 9 0), .inl (List.replicate 40 0), .inl (List.replicate 40 0), .inl (List.replicate 40 0), .inr (6, [.ref 4, .ref 49, .ref 50, .int 0]), .inl (List.replicate 20 0), .inl (List.replicate 20 0)] [.ref 48, .ref 0] 2 40 ⟨by show 1 ≤ B.1; omega, by show 2 ≤ B.2.1 - 1 - 2 - 1 - 5 - 1 - 5 - 1 - 31 - 1; omega, by show 40 ≤ B.2.2 - 5 - 160 - 7 - 169 - 7 - 169 - 2 - 885 - 4; omega⟩ rfl rfl rfl (by decide) rfl rfl (fun Q' hQ' => t_Pairs0 hX ⟨by show 1 ≤ B.1 - 1; omega, Nat.le_refl _, Nat.le_refl _⟩ hQ') ?_)
  iterate 3 refine hX ?_
  refine And.intro ⟨by show 1 ≤ B.2.1 - 1 - 2 - 1 - 5 - 1 - 5 - 1 - 31 - 1 - 2; omega, by show 3 ≤ B.2.2 - 5 - 160 - 7 - 169 - 7 - 169 - 2 - 885 - 4 - 40; omega⟩ ?_
  iterate 2 refine hX ?_
  refine And.intro trivial (cNU [51] [.ref 0] [.inr (0, [.null, .null, .int 0])] (fun u : List Int32 × List Int32 => tbR (BTf 18) u.1 ∧ fsR 19 u.2) (fun _ => none) (fun u => BdW u.1 u.2 (nI 1822)) (fun u => [.inr (10, [.ref 1, .ref 4, .ref 10, .ref 16, .ref 48, .null, .null, .null, .null, .int 0, .int 0, .int 0]), .inr (8, [.ref 2, .ref 3, .int 0, .int 0, .int 0]), .inl (List.replicate 120 0), .inl (List.replicate 40 0), .inr (2, [.ref 5, .ref 6, .ref 7, .ref 8, .ref 9, .int 0, .int 0]), .inl (List.replicate 40 0), .inl (List.replicate 9 0), .inl (List.replicate 40 0), .inl (List.replicate 40 0), .inl (List.replicate 40 0), .inr (2, [.ref 11, .ref 12, .ref 13, .ref 14, .ref 15, .int 0, .int 0]), .inl (List.replicate 40 0), .inl (List.replicate 9 0), .inl (List.replicate 40 0), .inl (List.replicate 40 0), .inl (List.replicate 40 0), .inr (4, [.ref 17, .int 0]), .inr (50, [.ref 18, .ref 24, .ref 30, .ref 36, .ref 42]), .inr (2, [.ref 19, .ref 20, .ref 21, .ref 22, .ref 23, .int 0, .int 0]), .inl (List.replicate 40 0), .inl (List.replicate 9 0), .inl (List.replicate 40 0), .inl (List.replicate 40 0), .inl (List.replicate 40 0), .inr (2, [.ref 25, .ref 26, .ref 27, .ref 28, .ref 29, .int 0, .int 0]), .inl (List.replicate 40 0), .inl (List.replicate 9 0), .inl (List.replicate 40 0), .inl (List.replicate 40 0), .inl (List.replicate 40 0), .inr (2, [.ref 31, .ref 32, .ref 33, .ref 34, .ref 35, .int 0, .int 0]), .inl (List.replicate 40 0), .inl (List.replicate 9 0), .inl (List.replicate 40 0), .inl (List.replicate 40 0), .inl (List.replicate 40 0), .inr (2, [.ref 37, .ref 38, .ref 39, .ref 40, .ref 41, .int 0, .int 0]), .inl (List.replicate 40 0), .inl (List.replicate 9 0), .inl (List.replicate 40 0), .inl (List.replicate 40 0), .inl (List.replicate 40 0), .inr (2, [.ref 43, .ref 44, .ref 45, .ref 46, .ref 47, .int 0, .int 0]), .inl (List.replicate 40 0), .inl (List.replicate 9 0), .inl (List.replicate 40 0), .inl (List.replicate 40 0), .inl (List.replicate 40 0), .inr (6, [.ref 4, .ref 49, .ref 50, .int 0]), .inl (List.replicate 20 0), .inl (List.replicate 20 0), .inr (0, [.ref 52, .ref 53, .int (nI 1822)]), .inl u.1, .inl u.2]) (fun _ => [.ref 51, .ref 0]) 2 1841 ⟨by show 1 ≤ B.1; omega, by show 2 ≤ B.2.1 - 1 - 2 - 1 - 5 - 1 - 5 - 1 - 31 - 1 - 2 - 1; omega, by show 1841 ≤ B.2.2 - 5 - 160 - 7 - 169 - 7 - 169 - 2 - 885 - 4 - 40 - 3; omega⟩ rfl rfl rfl (fun _ => by show 1 ≤ 3; decide) (fun _ => rfl) (fun _ => rfl) (fun Q' hQ' => t_Bodies hX ⟨by show 10 ≤ B.1 - 1; omega, Nat.le_refl _, Nat.le_refl _⟩ (fun w f a b => hQ' (w, f) ⟨a, b⟩)) (fun u hu => ?_))
  obtain ⟨bw, bf⟩ := u
  dsimp only at hu ⊢
  obtain ⟨hb1, hb2⟩ := hu
  iterate 3 refine hX ?_
  refine And.intro ⟨by show 1 ≤ B.2.1 - 1 - 2 - 1 - 5 - 1 - 5 - 1 - 31 - 1 - 2 - 1 - 2; omega, by show 8 ≤ B.2.2 - 5 - 160 - 7 - 169 - 7 - 169 - 2 - 885 - 4 - 40 - 3 - 1841; omega⟩ ?_
  iterate 4 refine hX ?_
  refine And.intro trivial (cNU [54, 4, 5, 6, 7, 8, 9] [.ref 0, .ref 1] [.inr (3, [.null, .null, .null, .null, .null, .null, .null, .int 0]), .inr (2, [.ref 2, .ref 3, .ref 4, .ref 5, .ref 6, .int 0, .int 0]), .inl (List.replicate 40 0), .inl (List.replicate 9 0), .inl (List.replicate 40 0), .inl (List.replicate 40 0), .inl (List.replicate 40 0)] (fun u : List Int32 × List Int32 × List Int32 × List Int32 => chR bs0 u.1 u.2.1 u.2.2.1 u.2.2.2) (fun _ => none) (fun u => GrW (List.replicate 40 0) (List.replicate 9 0) (List.replicate 40 0) (List.replicate 40 0) (List.replicate 40 0) 0 0 u.1 u.2.1 u.2.2.1 u.2.2.2 (List.replicate 40 0) (List.replicate 40 0) (List.replicate 40 0) (List.replicate 40 0) (List.replicate 8000 0) 0) (fun u => [.inr (10, [.ref 1, .ref 4, .ref 10, .ref 16, .ref 48, .ref 51, .null, .null, .null, .int 0, .int 0, .int 0]), .inr (8, [.ref 2, .ref 3, .int 0, .int 0, .int 0]), .inl (List.replicate 120 0), .inl (List.replicate 40 0), .inr (2, [.ref 5, .ref 6, .ref 7, .ref 8, .ref 9, .int 0, .int 0]), .inl (List.replicate 40 0), .inl (List.replicate 9 0), .inl (List.replicate 40 0), .inl (List.replicate 40 0), .inl (List.replicate 40 0), .inr (2, [.ref 11, .ref 12, .ref 13, .ref 14, .ref 15, .int 0, .int 0]), .inl (List.replicate 40 0), .inl (List.replicate 9 0), .inl (List.replicate 40 0), .inl (List.replicate 40 0), .inl (List.replicate 40 0), .inr (4, [.ref 17, .int 0]), .inr (50, [.ref 18, .ref 24, .ref 30, .ref 36, .ref 42]), .inr (2, [.ref 19, .ref 20, .ref 21, .ref 22, .ref 23, .int 0, .int 0]), .inl (List.replicate 40 0), .inl (List.replicate 9 0), .inl (List.replicate 40 0), .inl (List.replicate 40 0), .inl (List.replicate 40 0), .inr (2, [.ref 25, .ref 26, .ref 27, .ref 28, .ref 29, .int 0, .int 0]), .inl (List.replicate 40 0), .inl (List.replicate 9 0), .inl (List.replicate 40 0), .inl (List.replicate 40 0), .inl (List.replicate 40 0), .inr (2, [.ref 31, .ref 32, .ref 33, .ref 34, .ref 35, .int 0, .int 0]), .inl (List.replicate 40 0), .inl (List.replicate 9 0), .inl (List.replicate 40 0), .inl (List.replicate 40 0), .inl (List.replicate 40 0), .inr (2, [.ref 37, .ref 38, .ref 39, .ref 40, .ref 41, .int 0, .int 0]), .inl (List.replicate 40 0), .inl (List.replicate 9 0), .inl (List.replicate 40 0), .inl (List.replicate 40 0), .inl (List.replicate 40 0), .inr (2, [.ref 43, .ref 44, .ref 45, .ref 46, .ref 47, .int 0, .int 0]), .inl (List.replicate 40 0), .inl (List.replicate 9 0), .inl (List.replicate 40 0), .inl (List.replicate 40 0), .inl (List.replicate 40 0), .inr (6, [.ref 4, .ref 49, .ref 50, .int 0]), .inl (List.replicate 20 0), .inl (List.replicate 20 0), .inr (0, [.ref 52, .ref 53, .int (nI 1822)]), .inl bw, .inl bf, .inr (3, [.ref 4, .ref 55, .ref 60, .ref 61, .ref 62, .ref 63, .ref 64, .int 0]), .inr (1, [.ref 56, .ref 57, .ref 58, .ref 59]), .inl u.1, .inl u.2.1, .inl u.2.2.1, .inl u.2.2.2, .inl (List.replicate 40 0), .inl (List.replicate 40 0), .inl (List.replicate 40 0), .inl (List.replicate 40 0), .inl (List.replicate 8000 0)]) (fun _ => [.ref 54, .ref 0]) 10 8204 ⟨by show 1 ≤ B.1; omega, by show 10 ≤ B.2.1 - 1 - 2 - 1 - 5 - 1 - 5 - 1 - 31 - 1 - 2 - 1 - 2 - 1; omega, by show 8204 ≤ B.2.2 - 5 - 160 - 7 - 169 - 7 - 169 - 2 - 885 - 4 - 40 - 3 - 1841 - 8; omega⟩ rfl rfl rfl (fun _ => by show 7 ≤ 17; decide) (fun _ => rfl) (fun _ => rfl) (fun Q' hQ' => t_Growth0 hX ⟨by show 5 ≤ B.1 - 1; omega, Nat.le_refl _, Nat.le_refl _⟩ (fun w p o t h => hQ' (w, p, o, t) h)) (fun u hu => ?_))
  obtain ⟨w, p, o, t⟩ := u
  dsimp only at hu ⊢
  have hch := hu
  iterate 3 refine hX ?_
  refine And.intro ⟨by show 1 ≤ B.2.1 - 1 - 2 - 1 - 5 - 1 - 5 - 1 - 31 - 1 - 2 - 1 - 2 - 1 - 10; omega, by show 10 ≤ B.2.2 - 5 - 160 - 7 - 169 - 7 - 169 - 2 - 885 - 4 - 40 - 3 - 1841 - 8 - 8204; omega⟩ ?_
  iterate 10 refine hX ?_
  refine And.intro trivial (cND [65, 4, 5, 6, 7, 8, 9, 48, 49, 50, 51, 52, 53, 54, 55, 56, 57, 58, 59, 60, 61, 62, 63, 64] [.ref 0, .ref 1, .ref 7, .ref 10, .ref 13] [.inr (7, [.null, .null, .null, .null, .null, .null, .null, .int 0, .int 0, .int 0]), .inr (2, [.ref 2, .ref 3, .ref 4, .ref 5, .ref 6, .int 0, .int 0]), .inl (List.replicate 40 0), .inl (List.replicate 9 0), .inl (List.replicate 40 0), .inl (List.replicate 40 0), .inl (List.replicate 40 0), .inr (6, [.ref 1, .ref 8, .ref 9, .int 0]), .inl (List.replicate 20 0), .inl (List.replicate 20 0), .inr (0, [.ref 11, .ref 12, .int (nI 1822)]), .inl bw, .inl bf, .inr (3, [.ref 1, .ref 14, .ref 19, .ref 20, .ref 21, .ref 22, .ref 23, .int 0]), .inr (1, [.ref 15, .ref 16, .ref 17, .ref 18]), .inl w, .inl p, .inl o, .inl t, .inl (List.replicate 40 0), .inl (List.replicate 40 0), .inl (List.replicate 40 0), .inl (List.replicate 40 0), .inl (List.replicate 8000 0)] (SeW (List.replicate 40 0) (List.replicate 9 0) (List.replicate 40 0) (List.replicate 40 0) (List.replicate 40 0) 0 0 (List.replicate 20 0) (List.replicate 20 0) 0 bw bf (nI 1822) w p o t (List.replicate 40 0) (List.replicate 40 0) (List.replicate 40 0) (List.replicate 40 0) (List.replicate 8000 0) 0 (List.replicate 6 0) (List.replicate 20 0) (List.replicate 240 0) 0 0 0) [.inr (10, [.ref 1, .ref 4, .ref 10, .ref 16, .ref 48, .ref 51, .ref 54, .null, .null, .int 0, .int 0, .int 0]), .inr (8, [.ref 2, .ref 3, .int 0, .int 0, .int 0]), .inl (List.replicate 120 0), .inl (List.replicate 40 0), .inr (2, [.ref 5, .ref 6, .ref 7, .ref 8, .ref 9, .int 0, .int 0]), .inl (List.replicate 40 0), .inl (List.replicate 9 0), .inl (List.replicate 40 0), .inl (List.replicate 40 0), .inl (List.replicate 40 0), .inr (2, [.ref 11, .ref 12, .ref 13, .ref 14, .ref 15, .int 0, .int 0]), .inl (List.replicate 40 0), .inl (List.replicate 9 0), .inl (List.replicate 40 0), .inl (List.replicate 40 0), .inl (List.replicate 40 0), .inr (4, [.ref 17, .int 0]), .inr (50, [.ref 18, .ref 24, .ref 30, .ref 36, .ref 42]), .inr (2, [.ref 19, .ref 20, .ref 21, .ref 22, .ref 23, .int 0, .int 0]), .inl (List.replicate 40 0), .inl (List.replicate 9 0), .inl (List.replicate 40 0), .inl (List.replicate 40 0), .inl (List.replicate 40 0), .inr (2, [.ref 25, .ref 26, .ref 27, .ref 28, .ref 29, .int 0, .int 0]), .inl (List.replicate 40 0), .inl (List.replicate 9 0), .inl (List.replicate 40 0), .inl (List.replicate 40 0), .inl (List.replicate 40 0), .inr (2, [.ref 31, .ref 32, .ref 33, .ref 34, .ref 35, .int 0, .int 0]), .inl (List.replicate 40 0), .inl (List.replicate 9 0), .inl (List.replicate 40 0), .inl (List.replicate 40 0), .inl (List.replicate 40 0), .inr (2, [.ref 37, .ref 38, .ref 39, .ref 40, .ref 41, .int 0, .int 0]), .inl (List.replicate 40 0), .inl (List.replicate 9 0), .inl (List.replicate 40 0), .inl (List.replicate 40 0), .inl (List.replicate 40 0), .inr (2, [.ref 43, .ref 44, .ref 45, .ref 46, .ref 47, .int 0, .int 0]), .inl (List.replicate 40 0), .inl (List.replicate 9 0), .inl (List.replicate 40 0), .inl (List.replicate 40 0), .inl (List.replicate 40 0), .inr (6, [.ref 4, .ref 49, .ref 50, .int 0]), .inl (List.replicate 20 0), .inl (List.replicate 20 0), .inr (0, [.ref 52, .ref 53, .int (nI 1822)]), .inl bw, .inl bf, .inr (3, [.ref 4, .ref 55, .ref 60, .ref 61, .ref 62, .ref 63, .ref 64, .int 0]), .inr (1, [.ref 56, .ref 57, .ref 58, .ref 59]), .inl w, .inl p, .inl o, .inl t, .inl (List.replicate 40 0), .inl (List.replicate 40 0), .inl (List.replicate 40 0), .inl (List.replicate 40 0), .inl (List.replicate 8000 0), .inr (7, [.ref 4, .ref 48, .ref 51, .ref 54, .ref 66, .ref 67, .ref 68, .int 0, .int 0, .int 0]), .inl (List.replicate 6 0), .inl (List.replicate 20 0), .inl (List.replicate 240 0)] [.ref 65, .ref 0] 3 266 ⟨by show 1 ≤ B.1; omega, by show 3 ≤ B.2.1 - 1 - 2 - 1 - 5 - 1 - 5 - 1 - 31 - 1 - 2 - 1 - 2 - 1 - 10 - 1; omega, by show 266 ≤ B.2.2 - 5 - 160 - 7 - 169 - 7 - 169 - 2 - 885 - 4 - 40 - 3 - 1841 - 8 - 8204 - 10; omega⟩ rfl rfl rfl (by decide) rfl rfl (fun Q' hQ' => t_Search0 hX ⟨by show 1 ≤ B.1 - 1; omega, Nat.le_refl _, Nat.le_refl _⟩ hQ') ?_)
  iterate 3 refine hX ?_
  refine And.intro ⟨by show 1 ≤ B.2.1 - 1 - 2 - 1 - 5 - 1 - 5 - 1 - 31 - 1 - 2 - 1 - 2 - 1 - 10 - 1 - 3; omega, by show 4 ≤ B.2.2 - 5 - 160 - 7 - 169 - 7 - 169 - 2 - 885 - 4 - 40 - 3 - 1841 - 8 - 8204 - 10 - 266; omega⟩ ?_
  iterate 2 refine hX ?_
  refine And.intro trivial (cND [69] [.ref 0] [.inr (9, [.null, .null, .int 0, .int 0])] (WrW (List.replicate 160 0) (List.replicate 40 0) 0 0) [.inr (10, [.ref 1, .ref 4, .ref 10, .ref 16, .ref 48, .ref 51, .ref 54, .ref 65, .null, .int 0, .int 0, .int 0]), .inr (8, [.ref 2, .ref 3, .int 0, .int 0, .int 0]), .inl (List.replicate 120 0), .inl (List.replicate 40 0), .inr (2, [.ref 5, .ref 6, .ref 7, .ref 8, .ref 9, .int 0, .int 0]), .inl (List.replicate 40 0), .inl (List.replicate 9 0), .inl (List.replicate 40 0), .inl (List.replicate 40 0), .inl (List.replicate 40 0), .inr (2, [.ref 11, .ref 12, .ref 13, .ref 14, .ref 15, .int 0, .int 0]), .inl (List.replicate 40 0), .inl (List.replicate 9 0), .inl (List.replicate 40 0), .inl (List.replicate 40 0), .inl (List.replicate 40 0), .inr (4, [.ref 17, .int 0]), .inr (50, [.ref 18, .ref 24, .ref 30, .ref 36, .ref 42]), .inr (2, [.ref 19, .ref 20, .ref 21, .ref 22, .ref 23, .int 0, .int 0]), .inl (List.replicate 40 0), .inl (List.replicate 9 0), .inl (List.replicate 40 0), .inl (List.replicate 40 0), .inl (List.replicate 40 0), .inr (2, [.ref 25, .ref 26, .ref 27, .ref 28, .ref 29, .int 0, .int 0]), .inl (List.replicate 40 0), .inl (List.replicate 9 0), .inl (List.replicate 40 0), .inl (List.replicate 40 0), .inl (List.replicate 40 0), .inr (2, [.ref 31, .ref 32, .ref 33, .ref 34, .ref 35, .int 0, .int 0]), .inl (List.replicate 40 0), .inl (List.replicate 9 0), .inl (List.replicate 40 0), .inl (List.replicate 40 0), .inl (List.replicate 40 0), .inr (2, [.ref 37, .ref 38, .ref 39, .ref 40, .ref 41, .int 0, .int 0]), .inl (List.replicate 40 0), .inl (List.replicate 9 0), .inl (List.replicate 40 0), .inl (List.replicate 40 0), .inl (List.replicate 40 0), .inr (2, [.ref 43, .ref 44, .ref 45, .ref 46, .ref 47, .int 0, .int 0]), .inl (List.replicate 40 0), .inl (List.replicate 9 0), .inl (List.replicate 40 0), .inl (List.replicate 40 0), .inl (List.replicate 40 0), .inr (6, [.ref 4, .ref 49, .ref 50, .int 0]), .inl (List.replicate 20 0), .inl (List.replicate 20 0), .inr (0, [.ref 52, .ref 53, .int (nI 1822)]), .inl bw, .inl bf, .inr (3, [.ref 4, .ref 55, .ref 60, .ref 61, .ref 62, .ref 63, .ref 64, .int 0]), .inr (1, [.ref 56, .ref 57, .ref 58, .ref 59]), .inl w, .inl p, .inl o, .inl t, .inl (List.replicate 40 0), .inl (List.replicate 40 0), .inl (List.replicate 40 0), .inl (List.replicate 40 0), .inl (List.replicate 8000 0), .inr (7, [.ref 4, .ref 48, .ref 51, .ref 54, .ref 66, .ref 67, .ref 68, .int 0, .int 0, .int 0]), .inl (List.replicate 6 0), .inl (List.replicate 20 0), .inl (List.replicate 240 0), .inr (9, [.ref 70, .ref 71, .int 0, .int 0]), .inl (List.replicate 160 0), .inl (List.replicate 40 0)] [.ref 69, .ref 0] 2 200 ⟨by show 1 ≤ B.1; omega, by show 2 ≤ B.2.1 - 1 - 2 - 1 - 5 - 1 - 5 - 1 - 31 - 1 - 2 - 1 - 2 - 1 - 10 - 1 - 3 - 1; omega, by show 200 ≤ B.2.2 - 5 - 160 - 7 - 169 - 7 - 169 - 2 - 885 - 4 - 40 - 3 - 1841 - 8 - 8204 - 10 - 266 - 4; omega⟩ rfl rfl rfl (by decide) rfl rfl (fun Q' hQ' => t_Writing hX ⟨by show 1 ≤ B.1 - 1; omega, Nat.le_refl _, Nat.le_refl _⟩ hQ') ?_)
  iterate 2 refine hX ?_
  have hbs : rig bs0 := fun k _ _ => rfl
  exact hq (0, fun _ => e7z, (List.replicate 120 0, List.replicate 40 0, 0, 0, 0), e7z, e7z, (List.replicate 20 0, List.replicate 20 0, 0), (bw, bf, nI 1822), (w, p, o, t, List.replicate 40 0, List.replicate 40 0, List.replicate 40 0, List.replicate 40 0, List.replicate 8000 0, 0), (List.replicate 6 0, List.replicate 20 0, List.replicate 240 0, 0, 0, 0), (List.replicate 160 0, List.replicate 40 0, 0, 0), 0, 0, 0) ⟨⟨⟨by simp, List.length_replicate, rfl, rfl⟩, ⟨List.length_replicate, List.length_replicate, List.length_replicate, rfl⟩, e7z_ok⟩, gE_nil, ⟨⟨by simp, rfl⟩, fun i _ => e7z_ok, fun i hi => by simp at hi⟩, ⟨⟨EqInv_nil, rfl, rfl⟩, ⟨⟨EqInv_nil, ⟨⟨List.length_replicate, List.length_replicate, List.length_replicate⟩, fun q hq => by simp at hq⟩, rfl, fun c hc => by simp at hc⟩, ⟨⟨⟨List.length_replicate, List.length_replicate, by simp [prs]⟩, fun i hi => by simp [prs] at hi⟩, fun z hz => by simp [prs] at hz⟩, ⟨hb1, hb2⟩, ⟨List.length_replicate, List.length_replicate⟩, fun q hq => by simp at hq⟩, rfl⟩, ⟨bs0, [], ⟨⟨⟨hch, hbs⟩, ⟨⟨List.length_replicate, fun q _ => ⟨0, by omega, rep_get⟩⟩, List.length_replicate, List.length_replicate⟩, slR_nil List.length_replicate⟩, List.length_replicate, List.length_replicate⟩, Or.inl rfl⟩, ⟨List.length_replicate, List.length_replicate⟩, rfl, rfl, rfl⟩
end CI
