/-! The law: calls on one of two objects that lie in one heap. -/
def hld (h : pH) (ρ : List Nat) (hc : pH) : Prop := va_nd ρ = true ∧ ρ.map (pg h) = hc.map (fun c => some (rnc ρ c))
theorem hld_lt {h : pH} {ρ : List Nat} {hc : pH} (H : hld h ρ hc) : ∀ i ∈ ρ, i < h.length := by
  intro i hi
  obtain ⟨j, hj⟩ := List.getElem?_of_mem hi
  have e : (ρ.map (pg h))[j]? = some (pg h i) := by rw [List.getElem?_map, hj]; rfl
  rw [H.2, List.getElem?_map] at e
  cases hcj : hc[j]? with
  | none => rw [hcj] at e; cases e
  | some c0 => rw [hcj] at e; exact pg_lt (Option.some.inj e).symm
theorem hld_len {h : pH} {ρ : List Nat} {hc : pH} (H : hld h ρ hc) : ρ.length = hc.length := by
  have := congrArg List.length H.2
  simpa using this
theorem hld_at {h : pH} {ρ : List Nat} {hc : pH} (H : hld h ρ hc) {k i : Nat} (hk : ρ[k]? = some i) : ∃ c, hc[k]? = some c ∧ pg h i = some (rnc ρ c) := by
  have e : (ρ.map (pg h))[k]? = some (pg h i) := by rw [List.getElem?_map, hk]; rfl
  rw [H.2, List.getElem?_map] at e
  cases hck : hc[k]? with
  | none => rw [hck] at e; cases e
  | some c0 => rw [hck] at e; exact ⟨c0, rfl, (Option.some.inj e).symm⟩
theorem nd_of : ∀ (l : List Nat), va_nd l = true → l.Nodup
  | [], _ => List.nodup_nil
  | a :: l, h => by
    simp only [va_nd, Bool.and_eq_true, decide_eq_true_eq] at h
    exact List.nodup_cons.mpr ⟨h.1, nd_of l h.2⟩
theorem nd_inj : ∀ (l : List Nat), l.Nodup → ∀ (i j a : Nat), l[i]? = some a → l[j]? = some a → i = j
  | [], _, i, j, a, h1, _ => by simp at h1
  | b :: l, h, 0, 0, a, _, _ => rfl
  | b :: l, h, 0, j + 1, a, h1, h2 => by
    rw [List.getElem?_cons_succ] at h2
    have e : b = a := by simpa using h1
    subst e
    exact absurd (List.mem_of_getElem? h2) (List.nodup_cons.mp h).1
  | b :: l, h, i + 1, 0, a, h1, h2 => by
    rw [List.getElem?_cons_succ] at h1
    have e : b = a := by simpa using h2
    subst e
    exact absurd (List.mem_of_getElem? h1) (List.nodup_cons.mp h).1
  | b :: l, h, i + 1, j + 1, a, h1, h2 => by
    rw [List.getElem?_cons_succ] at h1 h2
    rw [nd_inj l (List.nodup_cons.mp h).2 i j a h1 h2]
/-- a heap of a heap's -/
theorem hld_comp {h h2 : pH} {ρ σ : List Nat} {hN : pH} (H : hld h ρ h2) (S : hld h2 σ hN) (rf : hN.all (rfC σ.length) = true) : hld h (σ.map fun j => ρ.getD j 0) hN := by
  have hl := hld_len H
  have hlt := hld_lt S
  refine ⟨?_, ?_⟩
  · refine va_nd_of _ ?_
    rw [List.nodup_iff_pairwise_ne]
    have hn := nd_of σ S.1
    have hρ := nd_of ρ H.1
    rw [List.pairwise_map]
    refine List.Pairwise.imp_of_mem ?_ (List.nodup_iff_pairwise_ne.mp hn)
    intro a b ha hb hab he
    have la := hlt a ha
    have lb := hlt b hb
    have ea : ρ[a]? = some (ρ.getD a 0) := by rw [List.getD_eq_getElem?_getD, List.getElem?_eq_getElem (by omega)]; rfl
    have eb : ρ[b]? = some (ρ.getD b 0) := by rw [List.getD_eq_getElem?_getD, List.getElem?_eq_getElem (by omega)]; rfl
    rw [← he] at eb
    exact hab (nd_inj ρ hρ a b _ ea eb)
  · apply List.ext_getElem?
    intro k
    rw [List.getElem?_map, List.getElem?_map, List.getElem?_map]
    cases hk : σ[k]? with
    | none =>
      have : hN[k]? = none := List.getElem?_eq_none (by have := hld_len S; have := List.getElem?_eq_none_iff.mp hk; omega)
      rw [this]
      rfl
    | some j =>
      obtain ⟨c, hc, hj⟩ := hld_at S hk
      rw [hc]
      have lj := hlt j (List.mem_of_getElem? hk)
      have hρj : ρ[j]? = some (ρ.getD j 0) := by rw [List.getD_eq_getElem?_getD, List.getElem?_eq_getElem (by omega)]; rfl
      obtain ⟨c2, hc2, hg⟩ := hld_at H hρj
      have e2 : c2 = rnc σ c := by rw [pg_eq, hc2] at hj; exact Option.some.inj hj
      show some (pg h (ρ.getD j 0)) = some (some (rnc (σ.map fun j => ρ.getD j 0) c))
      rw [hg, e2]
      congr 2
      have hrc := List.all_eq_true.mp rf c (List.mem_of_getElem? hc)
      have hv : ∀ v, rfK σ.length v = true → rnv ρ (rnv σ v) = rnv (σ.map fun j => ρ.getD j 0) v := by
        intro v hv
        cases v with
        | ref a =>
          have la : a < σ.length := Nat.le_of_ble_eq_true hv
          have ea : σ[a]? = some σ[a] := List.getElem?_eq_getElem la
          have l2 := hlt σ[a] (List.getElem_mem la)
          have e1 : rnv σ (.ref a) = .ref σ[a] := by rw [rnv, pg_eq, ea]
          have e3 : rnv (σ.map fun j => ρ.getD j 0) (.ref a) = .ref (ρ.getD σ[a] 0) := by rw [rnv, pg_eq, List.getElem?_map, ea]; rfl
          have e4 : ρ[σ[a]]? = some (ρ.getD σ[a] 0) := by rw [List.getD_eq_getElem?_getD, List.getElem?_eq_getElem (by omega)]; rfl
          rw [e1, e3, rnv, pg_eq, e4]
        | _ => rfl
      cases c with
      | inl xs => rfl
      | inr o =>
        show Sum.inr (o.1, (o.2.map (rnv σ)).map (rnv ρ)) = Sum.inr (o.1, o.2.map (rnv (σ.map fun j => ρ.getD j 0)))
        rw [List.map_map]
        congr 2
        refine List.map_congr_left (fun v hv2 => hv v ?_)
        exact List.all_eq_true.mp hrc v hv2
def nrV (v : Value) : Bool := match v with
  | .ref _ => false
  | _ => true
def ckL (av st : List Value) (na maxL : Nat) : Bool := Nat.beq av.length na && (Nat.ble na st.length && (Nat.ble ((st.drop na).map fun v => v.category).sum 8 && (Nat.ble (pEnt av).length maxL && pNoD av)))
theorem lawCall {X : pX} {B : pB} {me : Nat} {ls : pL} {st : List Value} {h : pH} {Q : pQ} {cid na maxL n : Nat} {ρ ρo : List Nat} {hc ho : pH} (H1 : hld h ρ hc) (H2 : hld h ρo ho) (hd : ∀ i ∈ ρ, i ∉ ρo) {p : Nat} (hp : pg ρ 0 = some p) (args : List Value) (hargs : args.all nrV = true) (k z : Nat) (h1 : 1 ≤ B.1 ∧ k ≤ B.2.1 ∧ z ≤ B.2.2) (hck : ckL (.ref 0 :: args) st na maxL = true) (ha : (st.take na).reverse = .ref p :: args) {U : Type} (P : U → Prop) (r : U → Option Value) (h2 : U → pH) (σ : U → List Nat) (hN : U → pH) (hr : ∀ u, noR (r u) = true) (hlen : ∀ u, ρ.length ≤ (h2 u).length) (hσ : ∀ u, hld (h2 u) (σ u) (hN u)) (hrf : ∀ u, (hN u).all (rfC (σ u).length) = true) (h0 : ∀ u, (σ u)[0]? = some 0)
    (hcal : ∀ Q' : pQ, (∀ u, P u → Q' (r u) (h2 u)) → X (B.1 - 1, k, z) cid 0 (pEntry (.ref 0 :: args) maxL) [] hc Q') (kk : ∀ u, P u → ∀ h' ρ', hld h' ρ' (hN u) → hld h' ρo ho → (∀ i ∈ ρ', i ∉ ρo) → pg ρ' 0 = some p → X (B.1, B.2.1 - k, B.2.2 - z) me n ls (rps (r u) (st.drop na)) h' Q) : oCall cid na maxL n X B me ls st h Q := by
  simp only [ckL, Bool.and_eq_true] at hck
  obtain ⟨k1, k2, k3, k4, k5⟩ := hck
  have hρ := hld_lt H1
  have hρo := hld_lt H2
  have hav : (Value.ref 0 :: args).map (rnv ρ) = .ref p :: args := by
    rw [List.map_cons, rnv, hp]
    congr 1
    conv => rhs; rw [← List.map_id args]
    refine List.map_congr_left (fun v hv => ?_)
    have := List.all_eq_true.mp hargs v hv
    cases v with
    | ref i => cases this
    | _ => rfl
  refine ⟨ρ, .ref 0 :: args, hc, k, z, fun r' h' => ∃ u, P u ∧ r' = r u ∧ h' = h2 u, ⟨h1, H1.1, H1.2, by rw [ha, hav], ⟨Nat.eq_of_beq_eq_true k1, Nat.le_of_ble_eq_true k2⟩, Nat.le_of_ble_eq_true k3, Nat.le_of_ble_eq_true k4, k5⟩, hcal _ (fun u hu => ⟨u, hu, rfl, rfl⟩), ?_⟩
  rintro r' h' ⟨u, hu, rfl, rfl⟩
  refine ⟨hlen u, ?_⟩
  rw [rps_eq (hr u)]
  -- what came back
  have hl2 : ρ.length ≤ ((h2 u).map (rnc (rext ρ h.length (h2 u)))).length := by rw [List.length_map]; exact hlen u
  have hB : hld (hput (rext ρ h.length (h2 u)) ρ (h2 u) h) (rext ρ h.length (h2 u)) (h2 u) := by
    refine ⟨?_, ?_⟩
    · refine va_nd_of _ ?_
      rw [rext]
      refine List.nodup_append.mpr ⟨nd_of ρ H1.1, List.nodup_range', ?_⟩
      intro a ha b hb hab
      have := hρ a ha
      rw [List.mem_range'_1] at hb
      omega
    · rw [hput_eq]
      apply List.ext_getElem?
      intro j
      rw [List.getElem?_map, List.getElem?_map]
      by_cases hj : j < ρ.length
      · have e1 : (rext ρ h.length (h2 u))[j]? = some ρ[j] := by rw [rext, List.getElem?_append_left hj, List.getElem?_eq_getElem hj]
        rw [e1]
        show some (pg _ ρ[j]) = _
        rw [pg_eq, lput_at ρ _ h j ρ[j] H1.1 (List.getElem?_eq_getElem hj) (hρ _ (List.getElem_mem hj)) hl2, List.getElem?_map]
        rw [List.getElem?_eq_getElem (show j < (h2 u).length by have := hlen u; omega)]
        rfl
      · by_cases hj2 : j < (h2 u).length
        · have e1 : (rext ρ h.length (h2 u))[j]? = some (h.length + (j - ρ.length)) := by
            rw [rext, List.getElem?_append_right (by omega), List.getElem?_range' (by omega)]
            simp
          rw [e1]
          show some (pg _ _) = _
          rw [pg_eq, lput_new ρ _ h _ hl2 (by omega), List.getElem?_map, show ρ.length + (h.length + (j - ρ.length) - h.length) = j by omega, List.getElem?_eq_getElem hj2]
          rfl
        · have e1 : (rext ρ h.length (h2 u))[j]? = none := List.getElem?_eq_none (by rw [rext, List.length_append, List.length_range']; omega)
          rw [e1, List.getElem?_eq_none (by omega)]
          rfl
  have hO : hld (hput (rext ρ h.length (h2 u)) ρ (h2 u) h) ρo ho := by
    refine ⟨H2.1, ?_⟩
    rw [← H2.2]
    refine List.map_congr_left (fun i hi => ?_)
    rw [pg_eq, pg_eq, hput_eq, lput_other ρ _ h i (fun q => hd i q hi) (hρo i hi)]
  refine kk u hu _ _ (hld_comp hB (hσ u) (hrf u)) hO ?_ ?_
  · intro i hi hio
    rw [List.mem_map] at hi
    obtain ⟨j, hj, rfl⟩ := hi
    have lj := hld_lt (hσ u) j hj
    have hll := hld_len hB
    have hmem : (rext ρ h.length (h2 u)).getD j 0 ∈ rext ρ h.length (h2 u) := getD_mem (by omega)
    have := hρo _ hio
    rw [rext, List.mem_append] at hmem
    rcases hmem with hm | hm
    · rw [← rext] at hm
      exact hd _ hm hio
    · rw [List.mem_range'_1] at hm
      rw [← rext] at hm
      omega
  · rw [pg_eq, List.getElem?_map, h0 u]
    show some ((rext ρ h.length (h2 u)).getD 0 0) = some p
    rw [pg_eq] at hp
    rw [rext, List.getD_eq_getElem?_getD, List.getElem?_append_left (List.getElem?_eq_some_iff.mp hp).1, hp]
    rfl
theorem law_recv {h : pH} {ρ : List Nat} {ci : Nat} {fs : List Value} {r : pH} (H : hld h ρ (.inr (ci, fs) :: r)) {p : Nat} (hp : pg ρ 0 = some p) {st : List Value} : pRecv h ci (.ref p :: st) := by
  rw [pg_eq] at hp
  obtain ⟨c, hc, hg⟩ := hld_at H hp
  have : c = .inr (ci, fs) := by simpa using hc.symm
  subst this
  show pOb h p ci (fun _ => True)
  rw [pOb, hg]
  show (bif Nat.beq ci ci then True else False)
  rw [Nat.beq_refl]
  trivial
/-! FlexTerms: what a call leaves. -/
abbrev rfRol : List Nat := [0, 1, 2, 3, 4, 5, 6, 7, 8, 9, 10, 11, 12, 13, 14, 15, 16, 17, 24, 25, 26, 27, 28, 29, 30, 31, 32, 33, 34, 35, 36, 37, 38, 39, 40, 41, 42, 43, 44, 45, 46, 47, 18, 19, 20, 21, 22, 23, 48, 49, 50, 51, 52, 53, 54, 55, 56, 57, 58, 59, 60, 61, 62, 63, 64, 65, 66, 67, 68, 69, 70, 71]
abbrev UX : Type := FT × Option (List Int32) × Bool
def zO : Option (List Int32) → pH
  | none => []
  | some g => [.inl g]
def raX : Bool → List Value
  | true => fr1
  | false => fr0
def h2X (u : UX) : pH := FWf (raX u.2.2) u.1 (zO u.2.1)
def rlX : Bool → FT → FT
  | true, f => rolF f
  | false, f => f
def hNX (u : UX) : pH := FWf fr0 (rlX u.2.2 u.1) []
def sgX (u : UX) : List Nat := match u.2.2 with
  | true => rfRol
  | false => rf72
theorem hs_X : ∀ u : UX, hld (h2X u) (sgX u) (hNX u) := by
  rintro ⟨f, o, b⟩
  cases b <;> cases o <;> exact ⟨rfl, rfl⟩
theorem rf_X : ∀ u : UX, (hNX u).all (rfC (sgX u).length) = true := by
  rintro ⟨f, o, b⟩
  cases b <;> rfl
theorem h0_X : ∀ u : UX, (sgX u)[0]? = some 0 := by
  rintro ⟨f, o, b⟩
  cases b <;> rfl
abbrev rf21 : List Nat := [0, 1, 2, 3, 4, 5, 6, 7, 8, 9, 10, 11, 12, 13, 14, 15, 16, 17, 18, 19, 20]
theorem hs_M (m : MT) : hld (MWf m) rf21 (MWf m) := ⟨rfl, rfl⟩
theorem rf_M (m : MT) : (MWf m).all (rfC rf21.length) = true := rfl
theorem lawX {X : pX} {B : pB} {me : Nat} {ls : pL} {st : List Value} {h : pH} {Q : pQ} {cid na maxL n : Nat} {ρ ρo : List Nat} {ho : pH} {f : FT} (H1 : hld h ρ (FWf fr0 f [])) (H2 : hld h ρo ho) (hd : ∀ i ∈ ρ, i ∉ ρo) {p : Nat} (hp : pg ρ 0 = some p) (args : List Value) (hargs : args.all nrV = true) (k z : Nat) (h1 : 1 ≤ B.1 ∧ k ≤ B.2.1 ∧ z ≤ B.2.2) (hck : ckL (.ref 0 :: args) st na maxL = true) (ha : (st.take na).reverse = .ref p :: args) (s' : St) (r : Option Value) (hr : noR r = true)
    (hcal : ∀ Q' : pQ, (∀ u : UX, FIf s' (rlX u.2.2 u.1) → Q' r (h2X u)) → X (B.1 - 1, k, z) cid 0 (pEntry (.ref 0 :: args) maxL) [] (FWf fr0 f []) Q') (kk : ∀ f', FIf s' f' → ∀ h' ρ', hld h' ρ' (FWf fr0 f' []) → hld h' ρo ho → (∀ i ∈ ρ', i ∉ ρo) → pg ρ' 0 = some p → X (B.1, B.2.1 - k, B.2.2 - z) me n ls (rps r (st.drop na)) h' Q) : oCallV cid 10 na maxL n X B me ls st h Q := by
  refine And.intro (by rw [ha]; exact law_recv H1 hp) ?_
  have hl := hld_len H1
  refine lawCall H1 H2 hd hp args hargs k z h1 hck ha (fun u : UX => FIf s' (rlX u.2.2 u.1)) (fun _ => r) h2X sgX hNX (fun _ => hr) ?_ hs_X rf_X h0_X hcal (fun u hu h' ρ' a b c d => kk _ hu h' ρ' a b c d)
  intro u
  rw [hl]
  have := hld_len (hs_X u)
  have e1 : (FWf fr0 f []).length = 72 := rfl
  have e2 : (h2X u).length = 72 + (zO u.2.1).length := by
    obtain ⟨f, o, b⟩ := u
    cases o <;> rfl
  omega
theorem lawM {X : pX} {B : pB} {me : Nat} {ls : pL} {st : List Value} {h : pH} {Q : pQ} {cid na maxL n : Nat} {ρ ρo : List Nat} {ho : pH} {m : MT} (H1 : hld h ρ (MWf m)) (H2 : hld h ρo ho) (hd : ∀ i ∈ ρ, i ∉ ρo) {p : Nat} (hp : pg ρ 0 = some p) (args : List Value) (hargs : args.all nrV = true) (h1 : 1 ≤ B.1) (hck : ckL (.ref 0 :: args) st na maxL = true) (ha : (st.take na).reverse = .ref p :: args) (s' : St) (r : Option Value) (hr : noR r = true)
    (hcal : ∀ Q' : pQ, (∀ m', MIf s' m' → Q' r (MWf m')) → X (B.1 - 1, 0, 0) cid 0 (pEntry (.ref 0 :: args) maxL) [] (MWf m) Q') (kk : ∀ m', MIf s' m' → ∀ h' ρ', hld h' ρ' (MWf m') → hld h' ρo ho → (∀ i ∈ ρ', i ∉ ρo) → pg ρ' 0 = some p → X B me n ls (rps r (st.drop na)) h' Q) : oCallV cid 11 na maxL n X B me ls st h Q := by
  refine And.intro (by rw [ha]; exact law_recv H1 hp) ?_
  have hl := hld_len H1
  refine lawCall H1 H2 hd hp args hargs 0 0 ⟨h1, Nat.zero_le _, Nat.zero_le _⟩ hck ha (fun u : MT => MIf s' u) (fun _ => r) MWf (fun _ => rf21) MWf (fun _ => hr) ?_ hs_M rf_M (fun _ => rfl) hcal kk
  intro u
  rw [hl]
  exact Nat.le_refl _
