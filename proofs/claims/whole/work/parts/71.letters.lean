/-! Calls, as they are used over the pure machine: the callee's answer and heap are known. -/
theorem hput_same {ρ : List Nat} {n : Nat} {h hc : pH} (hh : ρ.map (pg h) = hc.map (fun c => some (rnc ρ c))) : hput (rext ρ n hc) ρ hc h = h := by
  have hl : hc.length = ρ.length := by have := congrArg List.length hh; simpa using this.symm
  have e : rext ρ n hc = ρ := by rw [rext, hl, Nat.sub_self]; simp
  rw [e, hput_eq]
  have := lput_self ρ (hc.map (rnc ρ)) [] h (by rw [List.map_map]; rw [show (ρ.map fun i => h[i]?) = ρ.map (pg h) from List.map_congr_left (fun i _ => (pg_eq _ _).symm), hh]; rfl)
  simpa using this
/-- what of a call can be counted -/
def ckC (ρ : List Nat) (av st : List Value) (na maxL : Nat) : Bool := va_nd ρ && (Nat.beq av.length na && (Nat.ble na st.length && (Nat.ble ((st.drop na).map fun v => v.category).sum 8 && (Nat.ble (pEnt av).length maxL && pNoD av))))
theorem ckC_ok {ρ : List Nat} {av st : List Value} {na maxL : Nat} (h : ckC ρ av st na maxL = true) : va_nd ρ = true ∧ (av.length = na ∧ na ≤ st.length) ∧ ((st.drop na).map fun v => v.category).sum ≤ 8 ∧ (pEnt av).length ≤ maxL ∧ pNoD av = true := by
  simp only [ckC, Bool.and_eq_true] at h
  obtain ⟨h1, h2, h3, h4, h5, h6⟩ := h
  exact ⟨h1, ⟨Nat.eq_of_beq_eq_true h2, Nat.le_of_ble_eq_true h3⟩, Nat.le_of_ble_eq_true h4, Nat.le_of_ble_eq_true h5, h6⟩
/-- a callee that leaves its heap as it was -/
theorem cP {X : pX} {B : pB} {me : Nat} {ls : pL} {st : List Value} {h : pH} {Q : pQ} {cid na maxL n : Nat} (ρ : List Nat) (av : List Value) (hc : pH) (r : Option Value) (st1 : List Value) (h1 : 1 ≤ B.1) (hk : ckC ρ av st na maxL = true) (hh : ρ.map (pg h) = hc.map (fun c => some (rnc ρ c))) (ha : (st.take na).reverse = av.map (rnv ρ))
    (hst : rpush ρ r (st.drop na) = st1) (hcal : ∀ Q' : pQ, Q' r hc → X (B.1 - 1, 0, 0) cid 0 (pEntry av maxL) [] hc Q') (kk : X B me n ls st1 h Q) : oCall cid na maxL n X B me ls st h Q := by
  obtain ⟨k1, k2, k3, k4, k5⟩ := ckC_ok hk
  refine ⟨ρ, av, hc, 0, 0, fun r' h' => r' = r ∧ h' = hc, ⟨⟨h1, Nat.zero_le _, Nat.zero_le _⟩, k1, hh, ha, k2, k3, k4, k5⟩, hcal _ ⟨rfl, rfl⟩, ?_⟩
  rintro r' h' ⟨rfl, rfl⟩
  have hl : h'.length = ρ.length := by have := congrArg List.length hh; simpa using this.symm
  have e : rext ρ h.length h' = ρ := by rw [rext, hl, Nat.sub_self]; simp
  refine ⟨by omega, ?_⟩
  rw [hput_same hh, e, hst]
  exact kk
/-- a callee that changes its heap, makes no cell -/
theorem cM {X : pX} {B : pB} {me : Nat} {ls : pL} {st : List Value} {h : pH} {Q : pQ} {cid na maxL n : Nat} (ρ : List Nat) (av : List Value) (hc : pH) {U : Type} (P : U → Prop) (r : U → Option Value) (h2 : U → pH) (hout : U → pH) (st1 : U → List Value) (h1 : 1 ≤ B.1) (hk : ckC ρ av st na maxL = true) (hh : ρ.map (pg h) = hc.map (fun c => some (rnc ρ c))) (ha : (st.take na).reverse = av.map (rnv ρ))
    (hlen : ∀ u, (h2 u).length = ρ.length) (hput1 : ∀ u, hput ρ ρ (h2 u) h = hout u) (hst : ∀ u, rpush ρ (r u) (st.drop na) = st1 u) (hcal : ∀ Q' : pQ, (∀ u, P u → Q' (r u) (h2 u)) → X (B.1 - 1, 0, 0) cid 0 (pEntry av maxL) [] hc Q') (kk : ∀ u, P u → X B me n ls (st1 u) (hout u) Q) : oCall cid na maxL n X B me ls st h Q := by
  obtain ⟨k1, k2, k3, k4, k5⟩ := ckC_ok hk
  refine ⟨ρ, av, hc, 0, 0, fun r' h' => ∃ u, P u ∧ r' = r u ∧ h' = h2 u, ⟨⟨h1, Nat.zero_le _, Nat.zero_le _⟩, k1, hh, ha, k2, k3, k4, k5⟩, hcal _ (fun u hu => ⟨u, hu, rfl, rfl⟩), ?_⟩
  rintro r' h' ⟨u, hu, rfl, rfl⟩
  have e : rext ρ h.length (h2 u) = ρ := by rw [rext, hlen u, Nat.sub_self]; simp
  refine ⟨by rw [hlen u]; exact Nat.le_refl _, ?_⟩
  rw [e, hput1 u, hst u]
  exact kk u hu
/-- the same, with one outcome -/
theorem cD {X : pX} {B : pB} {me : Nat} {ls : pL} {st : List Value} {h : pH} {Q : pQ} {cid na maxL n : Nat} (ρ : List Nat) (av : List Value) (hc : pH) (r : Option Value) (h2 : pH) (hout : pH) (st1 : List Value) (h1 : 1 ≤ B.1) (hk : ckC ρ av st na maxL = true) (hh : ρ.map (pg h) = hc.map (fun c => some (rnc ρ c))) (ha : (st.take na).reverse = av.map (rnv ρ))
    (hlen : h2.length = ρ.length) (hput1 : hput ρ ρ h2 h = hout) (hst : rpush ρ r (st.drop na) = st1) (hcal : ∀ Q' : pQ, Q' r h2 → X (B.1 - 1, 0, 0) cid 0 (pEntry av maxL) [] hc Q') (kk : X B me n ls st1 hout Q) : oCall cid na maxL n X B me ls st h Q :=
  cM ρ av hc (fun _ : Unit => True) (fun _ => r) (fun _ => h2) (fun _ => hout) (fun _ => st1) h1 hk hh ha (fun _ => hlen) (fun _ => hput1) (fun _ => hst) (fun Q' hQ' => hcal Q' (hQ' () trivial)) (fun _ _ => kk)
/-! Letters. -/
def fxI (c : Int32) : Int32 := if 85 ≤ c ∧ c ≤ 90 then 1 else 0
def arI (c : Int32) : Int32 := if c = 102 ∨ c = 86 ∨ c = 89 then 1 else if c = 103 ∨ c = 87 ∨ c = 90 then 2 else 0
def kdI (c : Int32) : Int32 := if c = 97 then 6 else if c = 98 then 7 else if c = 102 then 8 else if c = 103 then 9 else if 85 ≤ c ∧ c ≤ 90 then c - 85 else -1
theorem t_isFlex {sc : List Int32} {X : pX} (hX : Cl sc X) {B : pB} {c : Int32} {h : pH} {Q : pQ} (hq : Q (some (.int (fxI c))) h) : X B 49 0 [some (.int c)] [] h Q := by
  repeat refine hX ?_
  refine And.intro (fun h1 => ?_) (fun h1 => ?_)
  · repeat refine hX ?_
    refine And.intro (Or.inl rfl) ?_
    rw [fxI, if_neg (fun q => Int32.not_lt.mpr q.1 h1)] at hq
    exact hq
  · repeat refine hX ?_
    refine And.intro (fun h2 => ?_) (fun h2 => ?_)
    · repeat refine hX ?_
      refine And.intro (Or.inl rfl) ?_
      rw [fxI, if_neg (fun q => Int32.not_lt.mpr q.2 h2)] at hq
      exact hq
    · repeat refine hX ?_
      refine And.intro (Or.inr rfl) ?_
      rw [fxI, if_pos ⟨Int32.not_lt.mp h1, Int32.not_lt.mp h2⟩] at hq
      exact hq
theorem t_parts {sc : List Int32} {X : pX} (hX : Cl sc X) {B : pB} {c : Int32} {h : pH} {Q : pQ} (hq : Q (some (.int (arI c))) h) : X B 50 0 [some (.int c)] [] h Q := by
  refine hX (hX ?_)
  repeat' (refine And.intro (fun h1 => ?_) (fun h1 => ?_) <;> try subst h1)
  all_goals (repeat refine hX ?_)
  all_goals first | exact hq | (rw [show arI c = 0 from by unfold arI; simp [*]] at hq; exact hq)
theorem t_kind {sc : List Int32} {X : pX} (hX : Cl sc X) {B : pB} (hB : 1 ≤ B.1) {c : Int32} {h : pH} {Q : pQ} (hq : Q (some (.int (kdI c))) h) : X B 48 0 [some (.int c)] [] h Q := by
  have key : (if 85 ≤ c ∧ c ≤ 90 then c - 85 else -1) = kdI c → X B 48 56 [some (.int c)] [] h Q := by
    intro hk
    refine hX (hX (cP [] [.int c] [] (some (.int (fxI c))) [.int (fxI c)] hB rfl rfl rfl rfl (fun Q' hQ' => t_isFlex hX hQ') ?_))
    by_cases hc : 85 ≤ c ∧ c ≤ 90
    · have e : fxI c = 1 := if_pos hc
      rw [e]
      rw [if_pos hc] at hk
      rw [← hk] at hq
      refine hX (And.intro (fun h1 => absurd h1 (by decide)) (fun h1 => ?_))
      repeat refine hX ?_
      exact hq
    · have e : fxI c = 0 := if_neg hc
      rw [e]
      rw [if_neg hc] at hk
      rw [← hk] at hq
      refine hX (And.intro (fun h1 => ?_) (fun h1 => absurd rfl h1))
      repeat refine hX ?_
      exact hq
  refine hX (hX ?_)
  repeat' (refine And.intro (fun h1 => ?_) (fun h1 => ?_) <;> try subst h1)
  all_goals first | exact key (by unfold kdI; simp [*]) | skip
  all_goals first | exact key (by decide) | skip
  all_goals (repeat refine hX ?_)
  all_goals first | exact hq
