/-! A call over a part of a large heap: what comes back is written out cell by cell. -/
def fnd : List Nat → pH → Nat → Option pC
  | j :: ρ, c :: h, i => bif Nat.beq j i then some c else fnd ρ h i
  | _, _, _ => none
def pick1 (o : Option pC) (ρ : List Nat) (c : pC) : pC := match o with
  | some c' => rnc ρ c'
  | none => c
def hmp (ρ : List Nat) (h2 : pH) : pH → Nat → pH
  | [], _ => []
  | c :: r, i => pick1 (fnd ρ h2 i) ρ c :: hmp ρ h2 r (i + 1)
theorem fnd_none : ∀ (ρ : List Nat) (h : pH) (i : Nat), i ∉ ρ → fnd ρ h i = none
  | [], h, i, _ => by cases h <;> rfl
  | j :: ρ, [], i, _ => rfl
  | j :: ρ, c :: h, i, hi => by
    rw [List.mem_cons, not_or] at hi
    rw [fnd]
    cases hb : Nat.beq j i with
    | true => exact absurd (Nat.eq_of_beq_eq_true hb).symm hi.1
    | false => exact fnd_none ρ h i hi.2
theorem fnd_some : ∀ (ρ : List Nat) (h : pH) (i k : Nat), va_nd ρ = true → ρ[k]? = some i → h.length = ρ.length → fnd ρ h i = h[k]?
  | [], h, i, k, _, hk, _ => by simp at hk
  | j :: ρ, [], i, k, _, _, hl => by simp at hl
  | j :: ρ, c :: h, i, 0, hn, hk, hl => by
    cases hk
    rw [fnd]
    have : Nat.beq j j = true := Nat.beq_refl j
    rw [this]; rfl
  | j :: ρ, c :: h, i, k + 1, hn, hk, hl => by
    simp only [va_nd, Bool.and_eq_true, decide_eq_true_eq] at hn
    rw [List.getElem?_cons_succ] at hk ⊢
    rw [fnd]
    cases hb : Nat.beq j i with
    | true =>
      have := Nat.eq_of_beq_eq_true hb
      subst this
      exact absurd (List.mem_of_getElem? hk) hn.1
    | false => exact fnd_some ρ h i k hn.2 hk (by simpa using hl)
theorem hmp_get (ρ : List Nat) (h2 : pH) : ∀ (h : pH) (i j : Nat), (hmp ρ h2 h j)[i]? = (h[i]?).map (fun c => pick1 (fnd ρ h2 (j + i)) ρ c)
  | [], i, j => by simp [hmp]
  | c :: r, 0, j => by simp [hmp]
  | c :: r, i + 1, j => by
    rw [hmp, List.getElem?_cons_succ, List.getElem?_cons_succ, hmp_get ρ h2 r i (j + 1), show j + 1 + i = j + (i + 1) by omega]
theorem hput_hmp {ρ : List Nat} {h2 h : pH} (hn : va_nd ρ = true) (hl : h2.length = ρ.length) (hρ : ∀ i ∈ ρ, i < h.length) : hput ρ ρ h2 h = hmp ρ h2 h 0 := by
  rw [hput_eq]
  apply List.ext_getElem?
  intro i
  rw [hmp_get, Nat.zero_add]
  have hl2 : ρ.length ≤ (h2.map (rnc ρ)).length := by rw [List.length_map]; omega
  by_cases hi : i < h.length
  · by_cases hm : i ∈ ρ
    · obtain ⟨k, hk⟩ := List.getElem?_of_mem hm
      have hkl := (List.getElem?_eq_some_iff.mp hk).1
      rw [lput_at ρ _ h k i hn hk hi hl2, fnd_some ρ h2 i k hn hk hl, List.getElem?_map, List.getElem?_eq_getElem hi, List.getElem?_eq_getElem (by omega)]
      rfl
    · rw [lput_other ρ _ h i hm hi, fnd_none ρ h2 i hm, List.getElem?_eq_getElem hi]
      rfl
  · rw [lput_new ρ _ h i hl2 (by omega), List.getElem?_eq_none (by rw [List.length_map]; omega), List.getElem?_eq_none (by omega)]
    rfl
theorem cMs {X : pX} {B : pB} {me : Nat} {ls : pL} {st : List Value} {h : pH} {Q : pQ} {cid na maxL n : Nat} (ρ : List Nat) (av : List Value) (hc : pH) {U : Type} (P : U → Prop) (r : U → Option Value) (h2 : U → pH) (hout : U → pH) (h1 : 1 ≤ B.1) (hk : ckC ρ av st na maxL = true) (hh : ρ.map (pg h) = hc.map (fun c => some (rnc ρ c))) (ha : (st.take na).reverse = av.map (rnv ρ))
    (hlen : ∀ u, (h2 u).length = ρ.length) (hput1 : ∀ u, hmp ρ (h2 u) h 0 = hout u) (hr : ∀ u, noR (r u) = true) (hcal : ∀ Q' : pQ, (∀ u, P u → Q' (r u) (h2 u)) → X (B.1 - 1, 0, 0) cid 0 (pEntry av maxL) [] hc Q') (kk : ∀ u, P u → X B me n ls (rps (r u) (st.drop na)) (hout u) Q) : oCall cid na maxL n X B me ls st h Q := by
  have hρ : ∀ i ∈ ρ, i < h.length := by
    intro i hi
    obtain ⟨j, hj⟩ := List.getElem?_of_mem hi
    have e : (ρ.map (pg h))[j]? = some (pg h i) := by rw [List.getElem?_map, hj]; rfl
    rw [hh, List.getElem?_map] at e
    cases hcj : hc[j]? with
    | none => rw [hcj] at e; cases e
    | some c0 => rw [hcj] at e; exact pg_lt (Option.some.inj e).symm
  refine cM ρ av hc P r h2 hout (fun u => rps (r u) (st.drop na)) h1 hk hh ha hlen (fun u => ?_) (fun u => rps_eq (hr u)) hcal kk
  rw [hput_hmp (ckC_ok hk).1 (hlen u) hρ]
  exact hput1 u
/-- the heap of Search -/
def SeW (L S N D C : List Int32) (sd tt : Int32) (lf rt : List Int32) (cn : Int32) (bw bf : List Int32) (bn : Int32) (w p o t kn sn sz pl gw : List Int32) (us : Int32) (stn lst ws : List Int32) (le ct kw : Int32) : pH :=
  [.inr (7, [.ref 1, .ref 7, .ref 10, .ref 13, .ref 24, .ref 25, .ref 26, .int le, .int ct, .int kw]), .inr (2, [.ref 2, .ref 3, .ref 4, .ref 5, .ref 6, .int sd, .int tt]), .inl L, .inl S, .inl N, .inl D, .inl C,
   .inr (6, [.ref 1, .ref 8, .ref 9, .int cn]), .inl lf, .inl rt, .inr (0, [.ref 11, .ref 12, .int bn]), .inl bw, .inl bf,
   .inr (3, [.ref 1, .ref 14, .ref 19, .ref 20, .ref 21, .ref 22, .ref 23, .int us]), .inr (1, [.ref 15, .ref 16, .ref 17, .ref 18]), .inl w, .inl p, .inl o, .inl t, .inl kn, .inl sn, .inl sz, .inl pl, .inl gw, .inl stn, .inl lst, .inl ws]
abbrev rG : List Nat := [13, 1, 2, 3, 4, 5, 6, 14, 15, 16, 17, 18, 19, 20, 21, 22, 23]
abbrev rP : List Nat := [7, 1, 2, 3, 4, 5, 6, 8, 9]
abbrev rB : List Nat := [10, 11, 12]
abbrev rE : List Nat := [1, 2, 3, 4, 5, 6]
/-- a PAIR of places where terms begin, the one ahead of the other -/
def pOK (l : List Int32) (q : Nat × Nat) : Prop := ∃ x xr y yr, l.drop q.1 = x ++ xr ∧ okF x 1 = true ∧ l.drop q.2 = y ++ yr ∧ okF y 1 = true ∧ q.1 + x.length ≤ q.2
/-- the letters of a term that begins there -/
def tmL (l : List Int32) (p : Nat) : List Int32 := (l.drop p).take (tlen (l.drop p) 1)
theorem tmL_eq {l x xr : List Int32} {p : Nat} (h1 : l.drop p = x ++ xr) (h2 : okF x 1 = true) : tmL l p = x := by
  rw [tmL, h1, okF_tlen x xr 1 h2, List.take_left]
/-- what doesn't change while solutions are looked for -/
def SC (E : List (List Int32)) (P : List (Nat × Nat)) (L S N D C lf rt bw bf kn sn : List Int32) : Prop := (EqInv E L S ∧ mOK E.flatten N D C ∧ E.length % 2 = 0 ∧ (∀ c ∈ E.flatten, ¬ kdI c = -1)) ∧ (paI P lf rt ∧ ∀ q ∈ P, pOK E.flatten q) ∧ (tbR (BTf 18) bw ∧ fsR 19 bf) ∧ (kn.length = 40 ∧ sn.length = 40) ∧ ∀ q, q < E.flatten.length → kn.getD q 0 = nI (kN (E.flatten.getD q 0)) ∧ sn.getD q 0 = nI (sec E.flatten q)
theorem SC.gc {E : List (List Int32)} {P : List (Nat × Nat)} {L S N D C lf rt bw bf kn sn w p o t : List Int32} {bs : List (List Nat)} (h : SC E P L S N D C lf rt bw bf kn sn) (hc : chR bs w p o t) : GC E.flatten L N D C bs w p o t kn sn := by
  obtain ⟨⟨h1, h2, h3, h4⟩, -, -, h7, h8⟩ := h
  exact ⟨⟨h1.1.2.2.2, h1.1.1, h1.2.1, h2, h4, hc⟩, h7, h8⟩
theorem SC.ok {E : List (List Int32)} {P : List (Nat × Nat)} {L S N D C lf rt bw bf kn sn : List Int32} (h : SC E P L S N D C lf rt bw bf kn sn) : okF E.flatten E.length = true := okF_flat E h.1.1.2.2.2
/-- a PAIR agrees -/
def agP (l : List Int32) (bs : List (List Nat)) (q : Nat × Nat) : Prop := (grw bs (l.drop q.1)).length ≤ 200 ∧ grw bs (l.drop q.1) = grw bs (l.drop q.2)
/-- all its letters are chosen -/
def chP (l : List Int32) (bs : List (List Nat)) (p : Nat) : Prop := ∀ c ∈ tmL l p, bv (arN c) (bs.getD (kN c) [])
section SE
variable {sc : List Int32} {X : pX} {B : pB} {Q : pQ} {E : List (List Int32)} {P : List (Nat × Nat)} {L S N D C lf rt bw bf kn sn w p o t sz pl gw stn lst ws : List Int32} {sd tt cn bn us le ct kw : Int32}
theorem t_pairsAgree_loop (hX : Cl sc X) (hB : 5 ≤ B.1) (hS : SC E P L S N D C lf rt bw bf kn sn) {bs : List (List Nat)} (hc : chR bs w p o t) {x : Int32} (hls : lst.length = 20) (hch : ∀ i, i < P.length → lst.getD i 0 = x → chP E.flatten bs (P.getD i (0, 0)).1 ∧ chP E.flatten bs (P.getD i (0, 0)).2) :
    ∀ (n i : Nat), i + n = P.length → ∀ (sz pl gw : List Int32) (us : Int32), szI sz → pl.length = 40 → gw.length = 8000 → (∀ sz pl gw us, szI sz → pl.length = 40 → gw.length = 8000 → ((∀ j, i ≤ j → j < P.length → lst.getD j 0 = x → agP E.flatten bs (P.getD j (0, 0))) → Q (some (.int 1)) (SeW L S N D C sd tt lf rt (nI P.length) bw bf bn w p o t kn sn sz pl gw us stn lst ws le ct kw)) ∧ (¬ (∀ j, i ≤ j → j < P.length → lst.getD j 0 = x → agP E.flatten bs (P.getD j (0, 0))) → Q (some (.int 0)) (SeW L S N D C sd tt lf rt (nI P.length) bw bf bn w p o t kn sn sz pl gw us stn lst ws le ct kw))) → X B 70 2 [some (.ref 0), some (.int x), some (.int (nI i))] [] (SeW L S N D C sd tt lf rt (nI P.length) bw bf bn w p o t kn sn sz pl gw us stn lst ws le ct kw) Q := by
  obtain ⟨⟨s1, s2, s3, s4⟩, ⟨s5, s6⟩, -, s7, s8⟩ := id hS
  have hP20 := s5.1.2.2
  intro n
  induction n with
  | zero =>
    intro i hi sz pl gw us hz hpl hgw hq
    have : i = P.length := by omega
    subst this
    repeat refine hX ?_
    refine And.intro trivial (cP rP [.ref 0] (PaW L S N D C sd tt lf rt (nI P.length)) (some (.int (nI P.length))) [.int (nI P.length), .int (nI P.length)] (by omega) rfl rfl rfl rfl (fun Q' hQ' => t_pcount hX hQ') ?_)
    refine hX (And.intro (fun _ => ?_) (fun h => absurd (Int32.le_refl _) h))
    repeat refine hX ?_
    exact And.intro (Or.inr rfl) ((hq sz pl gw us hz hpl hgw).1 (fun j h1 h2 => by omega))
  | succ n ih =>
    intro i hi sz pl gw us hz hpl hgw hq
    have hin : i < P.length := by omega
    repeat refine hX ?_
    refine And.intro trivial (cP rP [.ref 0] (PaW L S N D C sd tt lf rt (nI P.length)) (some (.int (nI P.length))) [.int (nI P.length), .int (nI i)] (by omega) rfl rfl rfl rfl (fun Q' hQ' => t_pcount hX hQ') ?_)
    refine hX (And.intro (fun h => absurd ((nle (by omega) (by omega)).mp h) (by omega)) (fun _ => ?_))
    repeat refine hX ?_
    refine And.intro (fun h => absurd ((nle (a := 20) (by omega) (by omega)).mp h) (by omega)) (fun _ => ?_)
    repeat refine hX ?_
    refine And.intro (vp_in_nI (by omega) (by omega)) ?_
    rw [nI_clamp (by omega)]
    have next : (lst.getD i 0 = x → agP E.flatten bs (P.getD i (0, 0))) → ∀ (sz pl gw : List Int32) (us : Int32), szI sz → pl.length = 40 → gw.length = 8000 → X B 70 57 [some (.ref 0), some (.int x), some (.int (nI i))] [] (SeW L S N D C sd tt lf rt (nI P.length) bw bf bn w p o t kn sn sz pl gw us stn lst ws le ct kw) Q := by
      intro hag sz pl gw us hz hpl hgw
      iterate 2 refine hX ?_
      rw [show nI i + 1 = nI (i + 1) from (nI_succ i).symm]
      refine ih (i + 1) (by omega) sz pl gw us hz hpl hgw (fun sz pl gw us a b c => ⟨fun h => (hq sz pl gw us a b c).1 (fun j h1 h2 h3 => ?_), fun h => (hq sz pl gw us a b c).2 (fun h2 => h (fun j h3 h4 h5 => h2 j (by omega) h4 h5))⟩)
      by_cases e : i = j
      · subst e; exact hag h3
      · exact h j (by omega) h2 h3
    repeat refine hX ?_
    refine And.intro (fun h => ?_) (fun h => next (fun q => absurd q h) sz pl gw us hz hpl hgw)
    obtain ⟨e1, e2⟩ := s5.2 i hin
    obtain ⟨c1, c2⟩ := hch i hin h
    obtain ⟨u, ur, v, vr, d1, d2, d3, d4, d5⟩ := s6 _ (getD_mem (d := (0, 0)) hin)
    rcases hpq : P.getD i (0, 0) with ⟨a, b⟩
    rw [hpq] at next e1 e2 c1 c2 d1 d3 d5
    dsimp only at e1 e2 c1 c2 d1 d3 d5
    rw [chP, tmL_eq d1 d2] at c1
    rw [chP, tmL_eq d3 d4] at c2
    have hab : a < 40 ∧ b < 40 := by
      have k1 := congrArg List.length d1
      have k3 := congrArg List.length d3
      have := okF_pos d2 (by omega)
      have := okF_pos d4 (by omega)
      have := s1.1.2.2.2
      rw [List.length_drop, List.length_append] at k1 k3
      omega
    repeat refine hX ?_
    refine And.intro trivial (cP rP [.ref 0, .int (nI i)] (PaW L S N D C sd tt lf rt (nI P.length)) (some (.int (lf.getD i 0))) [.int (lf.getD i 0), .ref 13] (by omega) rfl rfl rfl rfl (fun Q' hQ' => t_left hX (by omega) s5.1.1 hQ') ?_)
    rw [e1]
    repeat refine hX ?_
    refine And.intro trivial (cP rP [.ref 0, .int (nI i)] (PaW L S N D C sd tt lf rt (nI P.length)) (some (.int (rt.getD i 0))) [.int (rt.getD i 0), .int (nI a), .ref 13] (by omega) rfl rfl rfl rfl (fun Q' hQ' => t_right hX (by omega) s5.1.2.1 hQ') ?_)
    rw [e2]
    refine hX (And.intro trivial (cMs rG [.ref 0, .int (nI a), .int (nI b)] (GrW L S N D C sd tt w p o t kn sn sz pl gw us) (fun u : List Int32 × List Int32 × List Int32 × Int32 => szI u.1 ∧ u.2.1.length = 40 ∧ u.2.2.1.length = 8000) (fun _ => some (.int (if (grw bs (E.flatten.drop a)).length ≤ 200 ∧ grw bs (E.flatten.drop a) = grw bs (E.flatten.drop b) then 1 else 0))) (fun u => GrW L S N D C sd tt w p o t kn sn u.1 u.2.1 u.2.2.1 u.2.2.2) (fun u => SeW L S N D C sd tt lf rt (nI P.length) bw bf bn w p o t kn sn u.1 u.2.1 u.2.2.1 u.2.2.2 stn lst ws le ct kw) (by omega) rfl rfl rfl (fun _ => rfl) (fun _ => rfl) (fun _ => rfl) (fun Q' hQ' => t_agree hX (by show 4 ≤ B.1 - 1; omega) (hS.gc hc) hS.ok d1 d2 d3 d4 d5 c1 c2 hz hpl hgw (fun sz pl gw us a b c => hQ' (sz, pl, gw, us) ⟨a, b, c⟩)) (fun u hu => ?_)))
    by_cases hag : (grw bs (E.flatten.drop a)).length ≤ 200 ∧ grw bs (E.flatten.drop a) = grw bs (E.flatten.drop b)
    · rw [if_pos hag]
      refine hX (And.intro (fun h => absurd h (by decide)) (fun _ => next (fun _ => hag) _ _ _ _ hu.1 hu.2.1 hu.2.2))
    · rw [if_neg hag]
      refine hX (And.intro (fun _ => ?_) (fun h => absurd rfl h))
      repeat refine hX ?_
      refine And.intro (Or.inl rfl) ((hq _ _ _ _ hu.1 hu.2.1 hu.2.2).2 (fun hall => hag ?_))
      have := hall i (Nat.le_refl i) hin h
      rw [hpq] at this
      exact this
theorem t_pairsAgree (hX : Cl sc X) (hB : 5 ≤ B.1) (hS : SC E P L S N D C lf rt bw bf kn sn) {bs : List (List Nat)} (hc : chR bs w p o t) {x : Int32} (hls : lst.length = 20) (hch : ∀ i, i < P.length → lst.getD i 0 = x → chP E.flatten bs (P.getD i (0, 0)).1 ∧ chP E.flatten bs (P.getD i (0, 0)).2) (hz : szI sz) (hpl : pl.length = 40) (hgw : gw.length = 8000) (hq : ∀ sz pl gw us, szI sz → pl.length = 40 → gw.length = 8000 → ((∀ j, j < P.length → lst.getD j 0 = x → agP E.flatten bs (P.getD j (0, 0))) → Q (some (.int 1)) (SeW L S N D C sd tt lf rt (nI P.length) bw bf bn w p o t kn sn sz pl gw us stn lst ws le ct kw)) ∧ (¬ (∀ j, j < P.length → lst.getD j 0 = x → agP E.flatten bs (P.getD j (0, 0))) → Q (some (.int 0)) (SeW L S N D C sd tt lf rt (nI P.length) bw bf bn w p o t kn sn sz pl gw us stn lst ws le ct kw))) : X B 70 0 [some (.ref 0), some (.int x), none] [] (SeW L S N D C sd tt lf rt (nI P.length) bw bf bn w p o t kn sn sz pl gw us stn lst ws le ct kw) Q := by
  iterate 2 refine hX ?_
  refine t_pairsAgree_loop hX hB hS hc hls hch P.length 0 (by omega) sz pl gw us hz hpl hgw (fun sz pl gw us a b c => ⟨fun h => (hq sz pl gw us a b c).1 (fun j h1 h2 => h j (by omega) h1 h2), fun h => (hq sz pl gw us a b c).2 (fun h2 => h (fun j _ h3 h4 => h2 j h3 h4))⟩)
/-- solutions kept so far: six BODIES each -/
def slR (A : List (List (List Nat))) (ws : List Int32) : Prop := ws.length = 240 ∧ A.length ≤ 40 ∧ ∀ i x, i < A.length → x < 6 → ws.getD (i * 6 + x) 0 = nI (wC ((A.getD i []).getD x []))
theorem slR_nil {ws : List Int32} (h : ws.length = 240) : slR [] ws := ⟨h, by simp, fun i x hi => by simp at hi⟩
theorem t_keep_fill (hX : Cl sc X) (hB : 2 ≤ B.1) {bs : List (List Nat)} (hc : chR bs w p o t) {A : List (List (List Nat))} (hA : A.length < 40) (hq : ∀ ws, slR (A ++ [bs]) ws → Q none (SeW L S N D C sd tt lf rt cn bw bf bn w p o t kn sn sz pl gw us stn lst ws le (nI (A.length + 1)) kw)) :
    ∀ (n x : Nat), x + n = 6 → ∀ (ws : List Int32), slR A ws → (∀ y, y < x → ws.getD (A.length * 6 + y) 0 = nI (wC (bs.getD y []))) → X B 71 50 [some (.ref 0), some (.int (nI x))] [] (SeW L S N D C sd tt lf rt cn bw bf bn w p o t kn sn sz pl gw us stn lst ws le (nI A.length) kw) Q := by
  intro n
  induction n with
  | zero =>
    intro x hx ws hR hy
    have : x = 6 := by omega
    subst this
    repeat refine hX ?_
    refine And.intro (fun _ => ?_) (fun h => absurd (by decide) h)
    repeat refine hX ?_
    have := hq ws ⟨hR.1, by rw [List.length_append, List.length_singleton]; omega, fun i x hi hx => ?_⟩
    · rw [nI_succ] at this
      exact this
    · rw [List.length_append, List.length_singleton] at hi
      by_cases e : i = A.length
      · subst e
        rw [getD_app2]
        exact hy x hx
      · rw [getD_app1 (by omega)]
        exact hR.2.2 i x (by omega) hx
  | succ n ih =>
    intro x hx ws hR hy
    repeat refine hX ?_
    refine And.intro (fun h => absurd ((nle (a := 6) (by omega) (by omega)).mp h) (by omega)) (fun _ => ?_)
    repeat refine hX ?_
    rw [show nI A.length * 6 = nI (A.length * 6) from nmul _ 6, nadd]
    refine And.intro trivial (cP rG [.ref 0, .int (nI x)] (GrW L S N D C sd tt w p o t kn sn sz pl gw us) (some (.int (nI (wC (bs.getD x []))))) [.int (nI (wC (bs.getD x []))), .int (nI (A.length * 6 + x)), .ref 26] (by omega) rfl rfl rfl rfl (fun Q' hQ' => t_gword hX (by show 1 ≤ B.1 - 1; omega) hc (by omega) hQ') ?_)
    refine hX (And.intro (vp_in_nI (by rw [hR.1]; omega) (by rw [hR.1]; omega)) ?_)
    rw [nI_clamp (by omega)]
    iterate 2 refine hX ?_
    rw [show nI x + 1 = nI (x + 1) from (nI_succ x).symm]
    refine ih (x + 1) (by omega) _ ⟨by rw [List.length_set]; exact hR.1, hR.2.1, fun i y hi hy2 => ?_⟩ (fun y hy2 => ?_)
    · rw [getD_set_ne (by omega)]
      exact hR.2.2 i y hi hy2
    · by_cases e : x = y
      · subst e
        exact getD_set_eq (by rw [hR.1]; omega)
      · rw [getD_set_ne (by omega)]
        exact hy y (by omega)
/-- the sides that are LEFT fit -/
def fitL (E : List (List Int32)) (bs : List (List Nat)) : Prop := ∀ e, e < E.length / 2 → (grw bs (E.flatten.drop (pre E (2 * e)))).length ≤ 200
theorem side_at {E : List (List Int32)} (h : ∀ t ∈ E, okF t 1 = true) {k : Nat} (hk : k < E.length) : ∃ xr, E.flatten.drop (pre E k) = E.getD k [] ++ xr ∧ okF (E.getD k []) 1 = true := by
  have e : E = E.take k ++ E.getD k [] :: E.drop (k + 1) := by
    rw [List.getD_eq_getElem?_getD, List.getElem?_eq_getElem hk]
    show E = E.take k ++ E[k] :: E.drop (k + 1)
    rw [← List.drop_eq_getElem_cons hk, List.take_append_drop]
  refine ⟨(E.drop (k + 1)).flatten, ?_, h _ (getD_mem hk)⟩
  have e2 : E.flatten = (E.take k).flatten ++ (E.getD k [] ++ (E.drop (k + 1)).flatten) := by
    conv => lhs; rw [e]
    rw [List.flatten_append, List.flatten_cons]
  rw [e2, pre, List.drop_left]
theorem t_fitAll (hX : Cl sc X) (hB : 5 ≤ B.1) (hS : SC E P L S N D C lf rt bw bf kn sn) {bs : List (List Nat)} (hc : chR bs w p o t) (hch : ∀ c ∈ E.flatten, bv (arN c) (bs.getD (kN c) [])) :
    ∀ (n e : Nat), e + n = E.length / 2 → ∀ (sz : List Int32), szI sz → (∀ sz, szI sz → ((∀ j, e ≤ j → j < E.length / 2 → (grw bs (E.flatten.drop (pre E (2 * j)))).length ≤ 200) → X B 71 39 [some (.ref 0), some (.int (nI (E.length / 2)))] [] (SeW L S N D C (nI E.length) tt lf rt cn bw bf bn w p o t kn sn sz pl gw us stn lst ws le ct kw) Q) ∧ (¬ (∀ j, e ≤ j → j < E.length / 2 → (grw bs (E.flatten.drop (pre E (2 * j)))).length ≤ 200) → Q none (SeW L S N D C (nI E.length) tt lf rt cn bw bf bn w p o t kn sn sz pl gw us stn lst ws le ct kw))) → X B 71 2 [some (.ref 0), some (.int (nI e))] [] (SeW L S N D C (nI E.length) tt lf rt cn bw bf bn w p o t kn sn sz pl gw us stn lst ws le ct kw) Q := by
  obtain ⟨⟨s1, s2, s3, s4⟩, ⟨s5, s6⟩, -, s7, s8⟩ := id hS
  have hE8 := s1.1.2.2.1
  intro n
  induction n with
  | zero =>
    intro e he sz hz hq
    have : e = E.length / 2 := by omega
    subst this
    repeat refine hX ?_
    refine And.intro trivial (cP rE [.ref 0] (EqW L S N D C (nI E.length) tt) (some (.int (nI (E.length / 2)))) [.int (nI (E.length / 2)), .int (nI (E.length / 2))] (by omega) rfl rfl rfl rfl (fun Q' hQ' => t_count hX (by omega) hQ') ?_)
    exact hX (And.intro (fun _ => (hq sz hz).1 (fun j h1 h2 => by omega)) (fun h => absurd (Int32.le_refl _) h))
  | succ n ih =>
    intro e he sz hz hq
    obtain ⟨xr, d1, d2⟩ := side_at s1.2.2.2 (k := 2 * e) (by omega)
    have hpl := pre_le (E := E) (2 * e)
    have hp40 := s1.1.2.2.2
    have hv : ∀ c ∈ E.getD (2 * e) [], bv (arN c) (bs.getD (kN c) []) := fun c hc => hch c (List.mem_flatten.mpr ⟨_, getD_mem (by omega), hc⟩)
    repeat refine hX ?_
    refine And.intro trivial (cP rE [.ref 0] (EqW L S N D C (nI E.length) tt) (some (.int (nI (E.length / 2)))) [.int (nI (E.length / 2)), .int (nI e)] (by omega) rfl rfl rfl rfl (fun Q' hQ' => t_count hX (by omega) hQ') ?_)
    refine hX (And.intro (fun h => absurd ((nle (by omega) (by omega)).mp h) (by omega)) (fun _ => ?_))
    repeat refine hX ?_
    refine And.intro trivial (cP rE [.ref 0, .int (nI e), .int 0] (EqW L S N D C (nI E.length) tt) (some (.int (S.getD (2 * e + 0) 0))) [.int (S.getD (2 * e + 0) 0), .ref 13] (by omega) rfl rfl rfl rfl (fun Q' hQ' => t_start (j := 0) hX (by show 2 ≤ B.1 - 1; omega) hE8 (by omega) (by omega) s1.1.2.1 hQ') ?_)
    rw [s1.2.2.1 (2 * e + 0) (by omega), Nat.add_zero]
    refine hX (And.intro trivial (cMs rG [.ref 0, .int (nI (pre E (2 * e)))] (GrW L S N D C (nI E.length) tt w p o t kn sn sz pl gw us) (fun s : List Int32 => szI s) (fun _ => some (.int (if (grw bs (E.flatten.drop (pre E (2 * e)))).length ≤ 200 then 1 else 0))) (fun s => GrW L S N D C (nI E.length) tt w p o t kn sn s pl gw us) (fun s => SeW L S N D C (nI E.length) tt lf rt cn bw bf bn w p o t kn sn s pl gw us stn lst ws le ct kw) (by omega) rfl rfl rfl (fun _ => rfl) (fun _ => rfl) (fun _ => rfl) (fun Q' hQ' => t_fits hX (by show 3 ≤ B.1 - 1; omega) (hS.gc hc) hS.ok d1 d2 hv hz (fun s a => hQ' s a)) (fun s hs => ?_)))
    by_cases hfit : (grw bs (E.flatten.drop (pre E (2 * e)))).length ≤ 200
    · rw [if_pos hfit]
      refine hX (And.intro (fun h => absurd h (by decide)) (fun _ => ?_))
      iterate 2 refine hX ?_
      rw [show nI e + 1 = nI (e + 1) from (nI_succ e).symm]
      refine ih (e + 1) (by omega) s hs (fun sz hz => ⟨fun h => (hq sz hz).1 (fun j h1 h2 => ?_), fun h => (hq sz hz).2 (fun h2 => h (fun j h3 h4 => h2 j (by omega) h4))⟩)
      by_cases ee : e = j
      · subst ee; exact hfit
      · exact h j (by omega) h2
    · rw [if_neg hfit]
      refine hX (And.intro (fun _ => ?_) (fun h => absurd rfl h))
      repeat refine hX ?_
      exact (hq s hs).2 (fun h => hfit (h e (Nat.le_refl e) (by omega)))
theorem t_keepIfItFits (hX : Cl sc X) (hB : 5 ≤ B.1) (hS : SC E P L S N D C lf rt bw bf kn sn) {bs : List (List Nat)} (hc : chR bs w p o t) (hch : ∀ c ∈ E.flatten, bv (arN c) (bs.getD (kN c) [])) (hz : szI sz) {A : List (List (List Nat))} (hA : slR A ws) (hq : ∀ sz ws A', szI sz → slR A' ws → ((fitL E bs ∧ A.length < 40 → A' = A ++ [bs]) ∧ (¬ (fitL E bs ∧ A.length < 40) → A' = A)) → Q none (SeW L S N D C (nI E.length) tt lf rt cn bw bf bn w p o t kn sn sz pl gw us stn lst ws le (nI A'.length) kw)) : X B 71 0 [some (.ref 0), none] [] (SeW L S N D C (nI E.length) tt lf rt cn bw bf bn w p o t kn sn sz pl gw us stn lst ws le (nI A.length) kw) Q := by
  have hA40 := hA.2.1
  iterate 2 refine hX ?_
  refine t_fitAll hX hB hS hc hch (E.length / 2) 0 (by omega) sz hz (fun sz hz => ⟨fun h => ?_, fun h => hq sz ws A hz hA ⟨fun h2 => absurd (fun j _ h4 => h2.1 j h4) h, fun _ => rfl⟩⟩)
  have hfit : fitL E bs := fun e he => h e (by omega) he
  repeat refine hX ?_
  refine And.intro (fun h40 => ?_) (fun h40 => ?_)
  · have := (nle (a := 40) (by omega) (by omega)).mp h40
    repeat refine hX ?_
    exact hq sz ws A hz hA ⟨fun h2 => by omega, fun _ => rfl⟩
  · have hlt : A.length < 40 := Nat.not_le.mp fun q => h40 ((nle (a := 40) (by omega) (by omega)).mpr q)
    iterate 2 refine hX ?_
    refine t_keep_fill hX (by omega) hc hlt (fun ws hws => ?_) 6 0 rfl ws hA (fun y hy => by omega)
    have := hq sz ws (A ++ [bs]) hz hws ⟨fun _ => rfl, fun h2 => absurd ⟨hfit, hlt⟩ h2⟩
    rw [List.length_append, List.length_singleton] at this
    exact this
end SE
