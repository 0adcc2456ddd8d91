/-! The model: whether a CHOICE solves; SOLUTIONS kept; the next BODY. -/
def scS (hpz pl sg bu : List Int32) : Prop := hpz.length = 48 ∧ pl.length = 300 ∧ sg.length = 300 ∧ bu.length = 400
/-- SOLUTIONS in the model's rows -/
def slB (A : List (List (List Nat))) (sv sz : List Int32) : Prop := (sv.length = 240 ∧ sz.length = 40 ∧ A.length ≤ 40) ∧ ∀ i, i < A.length → (∀ x, x < 6 → sv.getD (6 * i + x) 0 = nI (wB ((A.getD i []).getD x []))) ∧ sz.getD i 0 = nI (szB (A.getD i []) 6)
def sS (P k : Nat) : Nat := (BTf (6 * P + k)).length
theorem ss_at {ss : List Int32} (h : ssR 21 ss) {P k : Nat} (hP : P ≤ 2) (hk : k ≤ 6) : ss.getD (7 * P + k) 0 = nI (sS P k) := by
  have := h.2 (7 * P + k) (by omega)
  rw [show (7 * P + k) / 7 = P by omega, show (7 * P + k) % 7 = k by omega] at this
  exact this
theorem sS_le {P k : Nat} (hP : P ≤ 2) (hk : k ≤ 6) : sS P k ≤ 1822 := BTf_le (by omega)
section MN
variable {sc : List Int32} {X : pX} {B : pB} {Q : pQ} {nw fr pa rf tx bo ss op wr f1 f2 ch sd pk sv sz hpz pl sg bu : List Int32} {st ln ai fi dp wm pm sm vm wt : Int32} {hsh : Int64}
theorem m_cmp0 (hX : Cl sc X) {l1 : Option Value} {n k : Nat} (hq : Q (some (.int 0)) (MW nw fr pa st rf tx ln bo ss ai fi op dp wr wm f1 f2 pm ch sd sm pk sv sz vm hpz pl sg wt bu hsh)) : X B 172 52 [some (.ref 0), l1, some (.int (nI n)), some (.int 0), some (.int (nI k))] [] (MW nw fr pa st rf tx ln bo ss ai fi op dp wr wm f1 f2 pm ch sd sm pk sv sz vm hpz pl sg wt bu hsh) Q := by
  iterate 3 refine hX ?_
  refine And.intro (fun _ => ?_) (fun _ => ?_)
  · iterate 2 refine hX ?_
    exact And.intro (Or.inl rfl) hq
  · iterate 2 refine hX ?_
    refine And.intro (fun _ => ?_) (fun h => absurd rfl h)
    iterate 2 refine hX ?_
    exact And.intro (Or.inl rfl) hq
theorem m_cmp (hX : Cl sc X) {l1 : Option Value} {u v : List Int32} (hbu : brR (u ++ v) bu) (hl : u.length = v.length) (h200 : u.length ≤ 200) (hq : Q (some (.int (if u = v then 1 else 0))) (MW nw fr pa st rf tx ln bo ss ai fi op dp wr wm f1 f2 pm ch sd sm pk sv sz vm hpz pl sg wt bu hsh)) : ∀ (n k : Nat), k + n = u.length → u.take k = v.take k → X B 172 52 [some (.ref 0), l1, some (.int (nI u.length)), some (.int 1), some (.int (nI k))] [] (MW nw fr pa st rf tx ln bo ss ai fi op dp wr wm f1 f2 pm ch sd sm pk sv sz vm hpz pl sg wt bu hsh) Q := by
  have hb := hbu.1
  intro n
  induction n with
  | zero =>
    intro k hk he
    have : k = u.length := by omega
    subst this
    iterate 3 refine hX ?_
    refine And.intro (fun _ => ?_) (fun h => absurd (Int32.le_refl _) h)
    iterate 2 refine hX ?_
    rw [List.take_length, hl, List.take_length] at he
    rw [if_pos he] at hq
    exact And.intro (Or.inr rfl) hq
  | succ n ih =>
    intro k hk he
    have a1 : bu.getD k 0 = u.getD k 0 := by rw [brR_at hbu (by rw [List.length_append]; omega), getD_app1 (by omega)]
    have a2 : bu.getD (u.length + k) 0 = v.getD k 0 := by rw [brR_at hbu (by rw [List.length_append]; omega), getD_appR (by omega), Nat.add_sub_cancel_left]
    iterate 3 refine hX ?_
    refine And.intro (fun h => absurd ((nle (by omega) (by omega)).mp h) (by omega)) (fun _ => ?_)
    iterate 2 refine hX ?_
    refine And.intro (fun h => absurd h (by decide)) (fun _ => ?_)
    iterate 4 refine hX ?_
    refine And.intro (vp_in_nI (by omega) (by omega)) ?_
    rw [nI_clamp (by omega), a1]
    iterate 6 refine hX ?_
    rw [nadd]
    refine And.intro (vp_in_nI (by omega) (by omega)) ?_
    rw [nI_clamp (by omega), a2]
    refine hX ?_
    refine And.intro (fun h => ?_) (fun h => ?_)
    · iterate 5 refine hX ?_
      rw [show nI k + 1 = nI (k + 1) from (nI_succ k).symm]
      exact ih (k + 1) (by omega) (by rw [take_succ_getD 0 (by omega), take_succ_getD 0 (by omega), he, h])
    · iterate 4 refine hX ?_
      rw [show nI k + 1 = nI (k + 1) from (nI_succ k).symm]
      rw [if_neg (fun q => h (by rw [q]))] at hq
      exact m_cmp0 hX hq
theorem m_isSolved (hX : Cl sc X) (hB : 7 ≤ B.1) {E : List (List Int32)} (hg : gE E) {bs : List (List Nat)} (hc : chB bs ch) (hr : rig bs) (hv : ∀ c ∈ E.flatten, bv (arN c) (bs.getD (kN c) [])) (hs : scS hpz pl sg bu) {i : Nat} (hi : i < E.length / 2) (hq : ∀ hpz' pl' sg' bu' wt', scS hpz' pl' sg' bu' → Q (some (.int (if (grw bs (E.getD (2 * i) [])).length ≤ 200 ∧ grw bs (E.getD (2 * i) []) = grw bs (E.getD (2 * i + 1) []) then 1 else 0))) (MW (rowE E) fr pa st rf tx ln bo ss ai fi op dp wr wm f1 f2 pm ch sd sm pk sv sz vm hpz' pl' sg' wt' bu' hsh)) : X B 172 0 [some (.ref 0), some (.int (nI i)), none, none, none] [] (MW (rowE E) fr pa st rf tx ln bo ss ai fi op dp wr wm f1 f2 pm ch sd sm pk sv sz vm hpz pl sg wt bu hsh) Q := by
  obtain ⟨s1, s2, s3, s4⟩ := id hs
  have ct0 : ∀ hpz' : List Int32, hpz'.length = 48 → ∀ Q' : pQ, (∀ hz', hz'.length = 48 → Q' (some (.int (nI (min 1000 (grw bs (E.getD (2 * i) [])).length)))) (MW (rowE E) fr pa st rf tx ln bo ss ai fi op dp wr wm f1 f2 pm ch sd sm pk sv sz vm hz' pl sg wt bu hsh)) → X (B.1 - 1, 0, 0) 168 0 [some (.ref 0), some (.int (nI i)), some (.int (nI 0)), none, none, none, none, none, none, none] [] (MW (rowE E) fr pa st rf tx ln bo ss ai fi op dp wr wm f1 f2 pm ch sd sm pk sv sz vm hpz' pl sg wt bu hsh) Q' := fun h e Q' hQ' => m_comesTo (j := 0) hX (by show 3 ≤ B.1 - 1; omega) hg hc hr e hi (by omega) hQ'
  have ct1 : ∀ hpz' : List Int32, hpz'.length = 48 → ∀ Q' : pQ, (∀ hz', hz'.length = 48 → Q' (some (.int (nI (min 1000 (grw bs (E.getD (2 * i + 1) [])).length)))) (MW (rowE E) fr pa st rf tx ln bo ss ai fi op dp wr wm f1 f2 pm ch sd sm pk sv sz vm hz' pl sg wt bu hsh)) → X (B.1 - 1, 0, 0) 168 0 [some (.ref 0), some (.int (nI i)), some (.int (nI 1)), none, none, none, none, none, none, none] [] (MW (rowE E) fr pa st rf tx ln bo ss ai fi op dp wr wm f1 f2 pm ch sd sm pk sv sz vm hpz' pl sg wt bu hsh) Q' := fun h e Q' hQ' => m_comesTo (j := 1) hX (by show 3 ≤ B.1 - 1; omega) hg hc hr e hi (by omega) hQ'
  have bd0 : (grw bs (E.getD (2 * i) [])).length ≤ 200 → ∀ (hpz' pl' sg' bu' : List Int32) (wt' : Int32), scS hpz' pl' sg' bu' → ∀ Q' : pQ, (∀ bu2 pl2 sg2 wt2, brR (grw bs (E.getD (2 * i) [])) bu2 → pl2.length = 300 ∧ sg2.length = 300 → Q' (some (.int (nI (grw bs (E.getD (2 * i) [])).length))) (MW (rowE E) fr pa st rf tx ln bo ss ai fi op dp wr wm f1 f2 pm ch sd sm pk sv sz vm hpz' pl2 sg2 wt2 bu2 hsh)) → X (B.1 - 1, 0, 0) 171 0 [some (.ref 0), some (.int (nI i)), some (.int (nI 0)), some (.int (nI 0)), none, none, none, none, none, none] [] (MW (rowE E) fr pa st rf tx ln bo ss ai fi op dp wr wm f1 f2 pm ch sd sm pk sv sz vm hpz' pl' sg' wt' bu' hsh) Q' := fun h2 hpz' pl' sg' bu' wt' hs' Q' hQ' => m_builds (j := 0) (O := []) hX (by show 6 ≤ B.1 - 1; omega) hg hc hr hv ⟨hs'.2.1, hs'.2.2.1⟩ hi (by omega) ⟨hs'.2.2.2, by simp, by simp⟩ (by rw [List.length_nil]; simp only [Nat.add_zero]; omega) hQ'
  have bd1 : ∀ (O : List Int32), O.length + (grw bs (E.getD (2 * i + 1) [])).length ≤ 400 → ∀ (hpz' pl' sg' bu' : List Int32) (wt' : Int32), pl'.length = 300 ∧ sg'.length = 300 → brR O bu' → ∀ Q' : pQ, (∀ bu2 pl2 sg2 wt2, brR (O ++ grw bs (E.getD (2 * i + 1) [])) bu2 → pl2.length = 300 ∧ sg2.length = 300 → Q' (some (.int (nI (grw bs (E.getD (2 * i + 1) [])).length))) (MW (rowE E) fr pa st rf tx ln bo ss ai fi op dp wr wm f1 f2 pm ch sd sm pk sv sz vm hpz' pl2 sg2 wt2 bu2 hsh)) → X (B.1 - 1, 0, 0) 171 0 [some (.ref 0), some (.int (nI i)), some (.int (nI 1)), some (.int (nI O.length)), none, none, none, none, none, none] [] (MW (rowE E) fr pa st rf tx ln bo ss ai fi op dp wr wm f1 f2 pm ch sd sm pk sv sz vm hpz' pl' sg' wt' bu' hsh) Q' := fun O h2 hpz' pl' sg' bu' wt' hs' hO Q' hQ' => m_builds (j := 1) (O := O) hX (by show 6 ≤ B.1 - 1; omega) hg hc hr hv hs' hi (by omega) hO h2 hQ'
  generalize grw bs (E.getD (2 * i) []) = u at ct0 bd0 hq
  generalize grw bs (E.getD (2 * i + 1) []) = v at ct1 bd1 hq
  iterate 4 refine hX ?_
  refine And.intro trivial (cMw [.ref 0, .int (nI i), .int 0] (fun h : List Int32 => h.length = 48) (fun _ => some (.int (nI (min 1000 u.length)))) (fun h => (MW (rowE E) fr pa st rf tx ln bo ss ai fi op dp wr wm f1 f2 pm ch sd sm pk sv sz vm h pl sg wt bu hsh)) (by omega) rfl rfl (fun _ => rfl) (fun _ => rfl) (fun _ => rfl) (fun Q' hQ' => ct0 hpz s1 Q' (fun h e => hQ' h e)) (fun hp1 hh1 => ?_))
  iterate 4 refine hX ?_
  by_cases h2 : u.length ≤ 200
  case neg =>
    rw [if_neg (fun q => h2 q.1)] at hq
    refine And.intro (fun _ => ?_) (fun h => absurd ((nlt (a := 200) (by omega) (by omega)).mpr (by omega)) h)
    iterate 2 refine hX ?_
    exact And.intro (Or.inl rfl) (hq hp1 pl sg bu wt ⟨hh1, s2, s3, s4⟩)
  rw [show min 1000 u.length = u.length by omega]
  refine And.intro (fun h => absurd ((nlt (a := 200) (by omega) (by omega)).mp h) (by omega)) (fun _ => ?_)
  iterate 5 refine hX ?_
  refine And.intro trivial (cMw [.ref 0, .int (nI i), .int 1] (fun h : List Int32 => h.length = 48) (fun _ => some (.int (nI (min 1000 v.length)))) (fun h => (MW (rowE E) fr pa st rf tx ln bo ss ai fi op dp wr wm f1 f2 pm ch sd sm pk sv sz vm h pl sg wt bu hsh)) (by omega) rfl rfl (fun _ => rfl) (fun _ => rfl) (fun _ => rfl) (fun Q' hQ' => ct1 hp1 hh1 Q' (fun h e => hQ' h e)) (fun hp2 hh2 => ?_))
  refine hX ?_
  by_cases hlv : u.length = v.length
  case neg =>
    rw [if_neg (fun q => hlv (by rw [q.2]))] at hq
    refine And.intro (fun h => absurd ((neq (by omega) (by omega)).mp h) (by omega)) (fun _ => ?_)
    iterate 2 refine hX ?_
    exact And.intro (Or.inl rfl) (hq hp2 pl sg bu wt ⟨hh2, s2, s3, s4⟩)
  rw [show min 1000 v.length = u.length by omega]
  refine And.intro (fun _ => ?_) (fun h => absurd rfl h)
  iterate 5 refine hX ?_
  refine And.intro trivial (cMw [.ref 0, .int (nI i), .int 0, .int 0] (fun w : List Int32 × List Int32 × List Int32 × Int32 => brR u w.1 ∧ w.2.1.length = 300 ∧ w.2.2.1.length = 300) (fun _ => some (.int (nI u.length))) (fun w => (MW (rowE E) fr pa st rf tx ln bo ss ai fi op dp wr wm f1 f2 pm ch sd sm pk sv sz vm hp2 w.2.1 w.2.2.1 w.2.2.2 w.1 hsh)) (by omega) rfl rfl (fun _ => rfl) (fun _ => rfl) (fun _ => rfl) (fun Q' hQ' => bd0 h2 hp2 pl sg bu wt ⟨hh2, s2, s3, s4⟩ Q' (fun a b c d e f => hQ' (a, b, c, d) ⟨e, f⟩)) ?_)
  rintro ⟨bu1, pl1, sg1, wt1⟩ ⟨w1, w2, w3⟩
  dsimp only at w1 w2 w3 ⊢
  iterate 5 refine hX ?_
  refine And.intro trivial (cMw [.ref 0, .int (nI i), .int 1, .int (nI u.length)] (fun w : List Int32 × List Int32 × List Int32 × Int32 => brR (u ++ v) w.1 ∧ w.2.1.length = 300 ∧ w.2.2.1.length = 300) (fun _ => some (.int (nI v.length))) (fun w => (MW (rowE E) fr pa st rf tx ln bo ss ai fi op dp wr wm f1 f2 pm ch sd sm pk sv sz vm hp2 w.2.1 w.2.2.1 w.2.2.2 w.1 hsh)) (by omega) rfl rfl (fun _ => rfl) (fun _ => rfl) (fun _ => rfl) (fun Q' hQ' => bd1 u (by omega) hp2 pl1 sg1 bu1 wt1 ⟨w2, w3⟩ w1 Q' (fun a b c d e f => hQ' (a, b, c, d) ⟨e, f⟩)) ?_)
  rintro ⟨bu2, pl2, sg2, wt2⟩ ⟨z1, z2, z3⟩
  dsimp only at z1 z2 z3 ⊢
  refine hX ?_
  refine And.intro (fun _ => ?_) (fun h => absurd (by rw [hlv]) h)
  iterate 5 refine hX ?_
  have hq2 := hq hp2 pl2 sg2 bu2 wt2 ⟨hh2, z2, z3, z1.1⟩
  have e : (if u.length ≤ 200 ∧ u = v then (1 : Int32) else 0) = if u = v then 1 else 0 := by
    by_cases huv : u = v
    · rw [if_pos huv, if_pos ⟨h2, huv⟩]
    · rw [if_neg huv, if_neg (fun q => huv q.2)]
  rw [e] at hq2
  exact m_cmp hX z1 hlv h2 hq2 u.length 0 (by omega) rfl
theorem m_are_loop (hX : Cl sc X) (hB : 8 ≤ B.1) {E : List (List Int32)} (hg : gE E) {bs : List (List Nat)} (hc : chB bs ch) (hr : rig bs) (hv : ∀ c ∈ E.flatten, bv (arN c) (bs.getD (kN c) [])) (hq : ∀ hpz' pl' sg' bu' wt', scS hpz' pl' sg' bu' → Q (some (.int (if slv bs E then 1 else 0))) (MW (rowE E) fr pa st rf tx ln bo ss ai fi op dp wr wm f1 f2 pm ch sd sm pk sv sz vm hpz' pl' sg' wt' bu' hsh)) : ∀ (n i : Nat), i + n = E.length / 2 → ∀ (hpz pl sg bu : List Int32) (wt : Int32), scS hpz pl sg bu → slv bs E = slv bs (E.drop (2 * i)) → X B 173 4 [some (.ref 0), some (.int 1), some (.int (nI i))] [] (MW (rowE E) fr pa st rf tx ln bo ss ai fi op dp wr wm f1 f2 pm ch sd sm pk sv sz vm hpz pl sg wt bu hsh) Q := by
  have hrl := rowE_len hg
  have h8 := hg.1.1
  have hev := hg.1.2.2
  intro n
  induction n with
  | zero =>
    intro i hi hpz pl sg bu wt hs he
    iterate 5 refine hX ?_
    refine And.intro (vp_in_nI (n := 0) (by omega) (by omega)) ?_
    rw [show Int32.toNatClampNeg 0 = 0 from rfl, rowE_0]
    refine hX ?_
    refine And.intro (fun _ => ?_) (fun h => absurd ((nle (by omega) (by omega)).mpr (by omega)) h)
    iterate 2 refine hX ?_
    rw [List.drop_eq_nil_of_le (by omega)] at he
    have h1 : slv bs E = true := by rw [he]; rfl
    rw [h1, if_pos rfl] at hq
    exact And.intro (Or.inr rfl) (hq hpz pl sg bu wt hs)
  | succ n ih =>
    intro i hi hpz pl sg bu wt hs he
    have hd : E.drop (2 * i) = E.getD (2 * i) [] :: E.getD (2 * i + 1) [] :: E.drop (2 * i + 2) := by
      rw [List.drop_eq_getElem_cons (by omega), List.drop_eq_getElem_cons (by omega), List.getD_eq_getElem?_getD, List.getElem?_eq_getElem (by omega), List.getD_eq_getElem?_getD, List.getElem?_eq_getElem (by omega)]
      rfl
    rw [hd, slv] at he
    iterate 5 refine hX ?_
    refine And.intro (vp_in_nI (n := 0) (by omega) (by omega)) ?_
    rw [show Int32.toNatClampNeg 0 = 0 from rfl, rowE_0]
    refine hX ?_
    refine And.intro (fun h => absurd ((nle (by omega) (by omega)).mp h) (by omega)) (fun _ => ?_)
    iterate 2 refine hX ?_
    refine And.intro (fun h => absurd h (by decide)) (fun _ => ?_)
    iterate 3 refine hX ?_
    refine And.intro trivial (cMw [.ref 0, .int (nI i)] (fun w : List Int32 × List Int32 × List Int32 × List Int32 × Int32 => scS w.1 w.2.1 w.2.2.1 w.2.2.2.1) (fun _ => some (.int (if (grw bs (E.getD (2 * i) [])).length ≤ 200 ∧ grw bs (E.getD (2 * i) []) = grw bs (E.getD (2 * i + 1) []) then 1 else 0))) (fun w => (MW (rowE E) fr pa st rf tx ln bo ss ai fi op dp wr wm f1 f2 pm ch sd sm pk sv sz vm w.1 w.2.1 w.2.2.1 w.2.2.2.2 w.2.2.2.1 hsh)) (by omega) rfl rfl (fun _ => rfl) (fun _ => rfl) (fun _ => rfl) (fun Q' hQ' => m_isSolved hX (by show 7 ≤ B.1 - 1; omega) hg hc hr hv hs (by omega) (fun a b c d e f => hQ' (a, b, c, d, e) f)) ?_)
    rintro ⟨hp1, pl1, sg1, bu1, wt1⟩ w1
    dsimp only at w1 ⊢
    iterate 3 refine hX ?_
    rw [show nI i + 1 = nI (i + 1) from (nI_succ i).symm]
    by_cases hs1 : (grw bs (E.getD (2 * i) [])).length ≤ 200 ∧ grw bs (E.getD (2 * i) []) = grw bs (E.getD (2 * i + 1) [])
    · rw [if_pos hs1]
      rw [decide_eq_true hs1.1, decide_eq_true hs1.2, Bool.true_and, Bool.true_and] at he
      exact ih (i + 1) (by omega) hp1 pl1 sg1 bu1 wt1 w1 (by rw [he]; rfl)
    · rw [if_neg hs1]
      have h1 : slv bs E = false := by
        rw [he, Bool.and_eq_false_iff, Bool.and_eq_false_iff, decide_eq_false_iff_not, decide_eq_false_iff_not]
        left
        by_cases h : (grw bs (E.getD (2 * i) [])).length ≤ 200
        · exact Or.inr (fun q => hs1 ⟨h, q⟩)
        · exact Or.inl h
      rw [h1] at hq
      iterate 5 refine hX ?_
      refine And.intro (vp_in_nI (n := 0) (by omega) (by omega)) ?_
      rw [show Int32.toNatClampNeg 0 = 0 from rfl, rowE_0]
      refine hX ?_
      refine And.intro (fun _ => ?_) (fun _ => ?_)
      · iterate 2 refine hX ?_
        exact And.intro (Or.inl rfl) (hq hp1 pl1 sg1 bu1 wt1 w1)
      · iterate 2 refine hX ?_
        refine And.intro (fun _ => ?_) (fun h => absurd rfl h)
        iterate 2 refine hX ?_
        exact And.intro (Or.inl rfl) (hq hp1 pl1 sg1 bu1 wt1 w1)
theorem m_meets_fill (hX : Cl sc X) {bs : List (List Nat)} (hc : chB bs ch) {A : List (List (List Nat))} (hA : A.length < 40) {s : Nat} (hs : s = szB bs 6) (hA2 : slB A sv sz) (hq : ∀ sv' sz', slB (A ++ [bs]) sv' sz' → Q none (MW nw fr pa st rf tx ln bo ss ai fi op dp wr wm f1 f2 pm ch sd sm pk sv' sz' (nI (A.length + 1)) hpz pl sg wt bu hsh)) : ∀ (n x : Nat), x + n = 6 → ∀ (sv' : List Int32), sv'.length = 240 → (∀ q, sv'.getD q 0 = if 6 * A.length ≤ q ∧ q < 6 * A.length + x then ch.getD (q - 6 * A.length) 0 else sv.getD q 0) → X B 174 18 [some (.ref 0), some (.int (nI s)), some (.int (nI x))] [] (MW nw fr pa st rf tx ln bo ss ai fi op dp wr wm f1 f2 pm ch sd sm pk sv' sz (nI A.length) hpz pl sg wt bu hsh) Q := by
  obtain ⟨⟨a1, a2, a3⟩, a4⟩ := hA2
  have hch := hc.1
  intro n
  induction n with
  | zero =>
    intro x hx sv' h1 h2
    have : x = 6 := by omega
    subst this
    iterate 3 refine hX ?_
    refine And.intro (fun _ => ?_) (fun h => absurd (by decide) h)
    iterate 6 refine hX ?_
    refine And.intro (vp_in_nI (by omega) (by omega)) ?_
    rw [nI_clamp (by omega)]
    iterate 7 refine hX ?_
    rw [show nI A.length + 1 = nI (A.length + 1) from (nI_succ _).symm]
    refine hq _ _ ⟨⟨h1, by rw [List.length_set]; exact a2, by rw [List.length_append, List.length_singleton]; omega⟩, fun i hi => ?_⟩
    rw [List.length_append, List.length_singleton] at hi
    by_cases e : A.length = i
    · subst e
      rw [getD_app2]
      refine ⟨fun x hx => ?_, by rw [getD_set_eq (by omega), hs]⟩
      rw [h2, if_pos (by omega), Nat.add_sub_cancel_left]
      exact (hc.2 x hx).2
    · rw [getD_app1 (by omega)]
      refine ⟨fun x hx => ?_, by rw [getD_set_ne e]; exact (a4 i (by omega)).2⟩
      rw [h2, if_neg (by omega)]
      exact (a4 i (by omega)).1 x hx
  | succ n ih =>
    intro x hx sv' h1 h2
    iterate 3 refine hX ?_
    refine And.intro (fun h => absurd ((nle (a := 6) (by omega) (by omega)).mp h) (by omega)) (fun _ => ?_)
    iterate 12 refine hX ?_
    refine And.intro (vp_in_nI (by omega) (by omega)) ?_
    refine hX ?_
    rw [show (6 : Int32) * nI A.length + nI x = nI (6 * A.length + x) by rw [show (6 : Int32) = nI 6 from rfl, nmul, nadd]]
    refine And.intro (vp_in_nI (by omega) (by omega)) ?_
    rw [nI_clamp (by omega), nI_clamp (by omega)]
    iterate 2 refine hX ?_
    rw [show nI x + 1 = nI (x + 1) from (nI_succ x).symm]
    refine ih (x + 1) (by omega) _ (by rw [List.length_set]; exact h1) (fun q => ?_)
    by_cases e : 6 * A.length + x = q
    · subst e
      rw [getD_set_eq (by omega), if_pos (by omega), Nat.add_sub_cancel_left]
    · rw [getD_set_ne e, h2 q]
      by_cases h3 : 6 * A.length ≤ q ∧ q < 6 * A.length + x
      · rw [if_pos h3, if_pos (by omega)]
      · rw [if_neg h3, if_neg (by omega)]
theorem m_meets (hX : Cl sc X) (hB : 9 ≤ B.1) {E : List (List Int32)} (hg : gE E) {bs : List (List Nat)} (hc : chB bs ch) (hr : rig bs) (hv : ∀ c ∈ E.flatten, bv (arN c) (bs.getD (kN c) [])) (hs : scS hpz pl sg bu) {A : List (List (List Nat))} (hA : slB A sv sz) {s : Nat} (hsz : s = szB bs 6) (hq : ∀ sv' sz' hpz' pl' sg' bu' wt', scS hpz' pl' sg' bu' → slB ((A ++ [bs].filter (slv · E)).take 40) sv' sz' → Q none (MW (rowE E) fr pa st rf tx ln bo ss ai fi op dp wr wm f1 f2 pm ch sd sm pk sv' sz' (nI ((A ++ [bs].filter (slv · E)).take 40).length) hpz' pl' sg' wt' bu' hsh)) : X B 174 0 [some (.ref 0), some (.int (nI s)), none] [] (MW (rowE E) fr pa st rf tx ln bo ss ai fi op dp wr wm f1 f2 pm ch sd sm pk sv sz (nI A.length) hpz pl sg wt bu hsh) Q := by
  have h40 := hA.1.2.2
  iterate 4 refine hX ?_
  by_cases hl : A.length < 40
  case neg =>
    rw [take40_full (by omega)] at hq
    refine And.intro (fun _ => ?_) (fun h => absurd ((nle (a := 40) (by omega) (by omega)).mpr (by omega)) h)
    refine hX ?_
    exact hq sv sz hpz pl sg bu wt hs hA
  refine And.intro (fun h => absurd ((nle (a := 40) (by omega) (by omega)).mp h) (by omega)) (fun _ => ?_)
  iterate 2 refine hX ?_
  refine And.intro trivial (cMw [.ref 0] (fun w : List Int32 × List Int32 × List Int32 × List Int32 × Int32 => scS w.1 w.2.1 w.2.2.1 w.2.2.2.1) (fun _ => some (.int (if slv bs E then 1 else 0))) (fun w => (MW (rowE E) fr pa st rf tx ln bo ss ai fi op dp wr wm f1 f2 pm ch sd sm pk sv sz (nI A.length) w.1 w.2.1 w.2.2.1 w.2.2.2.2 w.2.2.2.1 hsh)) (by omega) rfl rfl (fun _ => rfl) (fun _ => rfl) (fun _ => rfl) (fun Q' hQ' => by
    iterate 4 refine hX ?_
    exact m_are_loop hX (by show 8 ≤ B.1 - 1; omega) hg hc hr hv (fun a b c d e f => hQ' (a, b, c, d, e) f) (E.length / 2) 0 (by omega) hpz pl sg bu wt hs rfl) ?_)
  rintro ⟨hp1, pl1, sg1, bu1, wt1⟩ w1
  dsimp only at w1 ⊢
  cases hsl : slv bs E with
  | false =>
    rw [List.filter_cons_of_neg (by rw [hsl]; decide), List.filter_nil, List.append_nil, List.take_of_length_le h40] at hq
    refine hX (And.intro (fun _ => ?_) (fun h => absurd rfl h))
    refine hX ?_
    exact hq sv sz hp1 pl1 sg1 bu1 wt1 w1 hA
  | true =>
    rw [List.filter_cons_of_pos (p := (slv · E)) hsl, List.filter_nil, List.take_of_length_le (by rw [List.length_append, List.length_singleton]; omega), List.length_append, List.length_singleton] at hq
    refine hX (And.intro (fun h => absurd h (by decide)) (fun _ => ?_))
    iterate 2 refine hX ?_
    exact m_meets_fill hX hc hl hsz hA (fun sv' sz' h => hq sv' sz' hp1 pl1 sg1 bu1 wt1 w1 h) 6 0 rfl sv hA.1.1 (fun q => by rw [if_neg (by omega)])
/-- the next candidate -/
def cnx (last : Prop) [Decidable last] (c lo : Nat) : Nat := if last then max c lo else c
theorem m_picksNext (hX : Cl sc X) {stl : List Nat} (hst : sdR stl sd) (hst6 : stl.length ≤ 6) {j : Nat} (hj : j < stl.length) (hx : stl.getD j 0 < 6) {most c : Nat} (hm : 1 ≤ most ∧ most ≤ 6) (hcc : c ≤ 1822) (hpk : pk.length = 6) (hch : ch.length = 6) (hpc : pk.getD j 0 = nI c - 1) (hss : ssR 21 ss) (hbo : tbB (BTf 18) bo) (hq0 : sS (stl.getD j 0 % 3) most ≤ cnx (j = stl.length - 1) c (sS (stl.getD j 0 % 3) (most - 1)) → Q (some (.int 0)) (MW nw fr pa st rf tx ln bo ss ai fi op dp wr wm f1 f2 pm ch sd (nI stl.length) (pk.set j (nI (cnx (j = stl.length - 1) c (sS (stl.getD j 0 % 3) (most - 1))))) sv sz vm hpz pl sg wt bu hsh)) (hq1 : cnx (j = stl.length - 1) c (sS (stl.getD j 0 % 3) (most - 1)) < sS (stl.getD j 0 % 3) most → Q (some (.int 1)) (MW nw fr pa st rf tx ln bo ss ai fi op dp wr wm f1 f2 pm (ch.set (stl.getD j 0) (nI (wB ((BTf 18).getD (cnx (j = stl.length - 1) c (sS (stl.getD j 0 % 3) (most - 1))) [])))) sd (nI stl.length) (pk.set j (nI (cnx (j = stl.length - 1) c (sS (stl.getD j 0 % 3) (most - 1))))) sv sz vm hpz pl sg wt bu hsh)) : X B 175 0 [some (.ref 0), some (.int (nI j)), some (.int (nI most)), none, none] [] (MW nw fr pa st rf tx ln bo ss ai fi op dp wr wm f1 f2 pm ch sd (nI stl.length) pk sv sz vm hpz pl sg wt bu hsh) Q := by
  have hsd := hst.1
  have hat := hst.2 j hj
  generalize hxx : stl.getD j 0 = x at hx hq0 hq1 hat
  have hx3 : x % 3 ≤ 2 := by omega
  have hss22 := hss.1
  have hlo := sS_le (P := x % 3) (k := most - 1) hx3 (by omega)
  have hhi := sS_le (P := x % 3) (k := most) hx3 (by omega)
  have e7 : (7 : Int32) * nI (x % 3) + nI most = nI (7 * (x % 3) + most) := by rw [show (7 : Int32) = nI 7 from rfl, nmul, nadd]
  have e71 : nI (7 * (x % 3) + most) - 1 = nI (7 * (x % 3) + (most - 1)) := by
    rw [show nI (7 * (x % 3) + most) - 1 = nI (7 * (x % 3) + most - 1) from nsub (b := 1) (by omega)]
    congr 1
    omega
  -- behind the choice of the candidate
  have fin : ∀ (c' : Nat) (l4 : Int32), c' ≤ 1822 → c' = cnx (j = stl.length - 1) c (sS (x % 3) (most - 1)) → X B 175 82 [some (.ref 0), some (.int (nI j)), some (.int (nI most)), some (.int (nI (x % 3))), some (.int l4)] [] (MW nw fr pa st rf tx ln bo ss ai fi op dp wr wm f1 f2 pm ch sd (nI stl.length) (pk.set j (nI c')) sv sz vm hpz pl sg wt bu hsh) Q := by
    intro c' l4 hc18 hc'
    rw [← hc'] at hq0 hq1
    iterate 4 refine hX ?_
    refine And.intro (vp_in_nI (by rw [List.length_set]; omega) (by rw [List.length_set]; omega)) ?_
    rw [nI_clamp (by omega), getD_set_eq (by omega)]
    iterate 8 refine hX ?_
    rw [e7]
    refine And.intro (vp_in_nI (by omega) (by omega)) ?_
    rw [nI_clamp (by omega), ss_at hss hx3 (by omega)]
    refine hX ?_
    by_cases hlt : c' < sS (x % 3) most
    · refine And.intro (fun _ => ?_) (fun h => absurd ((nlt (by omega) (by omega)).mpr hlt) h)
      iterate 6 refine hX ?_
      refine And.intro (vp_in_nI (by omega) (by omega)) ?_
      rw [nI_clamp (by omega), hat]
      iterate 6 refine hX ?_
      refine And.intro (vp_in_nI (by rw [List.length_set]; omega) (by rw [List.length_set]; omega)) ?_
      rw [nI_clamp (by omega), getD_set_eq (by omega)]
      refine hX ?_
      refine And.intro (vp_in_nI (by rw [hbo.1]; omega) (by rw [hbo.1]; omega)) ?_
      rw [nI_clamp (by omega), hbo.2.2 c' (by rw [BTf_18]; omega)]
      refine hX ?_
      refine And.intro (vp_in_nI (by omega) (by omega)) ?_
      rw [nI_clamp (by omega)]
      iterate 2 refine hX ?_
      exact And.intro (Or.inr rfl) (hq1 hlt)
    · refine And.intro (fun h => absurd ((nlt (by omega) (by omega)).mp h) hlt) (fun _ => ?_)
      iterate 2 refine hX ?_
      exact And.intro (Or.inl rfl) (hq0 (by omega))
  iterate 4 refine hX ?_
  refine And.intro (vp_in_nI (by omega) (by omega)) ?_
  rw [nI_clamp (by omega), hat]
  iterate 2 refine hX ?_
  refine And.intro (by decide) ?_
  rw [show nI x - nI x / 3 * 3 = nI (x % 3) from nrem (b := 3) (by omega) (by omega) (by omega)]
  iterate 7 refine hX ?_
  rw [show nI stl.length - 1 = nI (stl.length - 1) from nsub (b := 1) (by omega)]
  have inc : ∀ l4 : Int32, (X B 175 36 [some (.ref 0), some (.int (nI j)), some (.int (nI most)), some (.int (nI (x % 3))), some (.int l4)] [] (MW nw fr pa st rf tx ln bo ss ai fi op dp wr wm f1 f2 pm ch sd (nI stl.length) (pk.set j (nI c)) sv sz vm hpz pl sg wt bu hsh) Q) → X B 175 24 [some (.ref 0), some (.int (nI j)), some (.int (nI most)), some (.int (nI (x % 3))), none] [.int l4] (MW nw fr pa st rf tx ln bo ss ai fi op dp wr wm f1 f2 pm ch sd (nI stl.length) pk sv sz vm hpz pl sg wt bu hsh) Q := by
    intro l4 hk
    iterate 6 refine hX ?_
    refine And.intro (vp_in_nI (by omega) (by omega)) ?_
    rw [nI_clamp (by omega), hpc]
    iterate 3 refine hX ?_
    rw [Int32.sub_add_cancel]
    refine And.intro (vp_in_nI (by omega) (by omega)) ?_
    rw [nI_clamp (by omega)]
    exact hk
  refine And.intro (fun h => ?_) (fun h => ?_)
  · have hjl : j = stl.length - 1 := (neq (by omega) (by omega)).mp h
    iterate 2 refine hX ?_
    refine inc 1 ?_
    iterate 2 refine hX ?_
    refine And.intro (fun h => absurd h (by decide)) (fun _ => ?_)
    iterate 4 refine hX ?_
    refine And.intro (vp_in_nI (by rw [List.length_set]; omega) (by rw [List.length_set]; omega)) ?_
    rw [nI_clamp (by omega), getD_set_eq (by omega)]
    iterate 10 refine hX ?_
    rw [e7, e71]
    refine And.intro (vp_in_nI (by omega) (by omega)) ?_
    rw [nI_clamp (by omega), ss_at hss hx3 (by omega)]
    refine hX ?_
    by_cases hle : sS (x % 3) (most - 1) ≤ c
    · refine And.intro (fun _ => ?_) (fun h => absurd ((nle (by omega) (by omega)).mpr hle) h)
      exact fin c 1 hcc (by rw [cnx, if_pos hjl, Nat.max_eq_left hle])
    · refine And.intro (fun h => absurd ((nle (by omega) (by omega)).mp h) hle) (fun _ => ?_)
      iterate 13 refine hX ?_
      rw [e7, e71]
      refine And.intro (vp_in_nI (by omega) (by omega)) ?_
      rw [nI_clamp (by omega), ss_at hss hx3 (by omega)]
      refine hX ?_
      refine And.intro (vp_in_nI (by rw [List.length_set]; omega) (by rw [List.length_set]; omega)) ?_
      rw [nI_clamp (by omega), List.set_set]
      exact fin (sS (x % 3) (most - 1)) 1 hlo (by rw [cnx, if_pos hjl, Nat.max_eq_right (by omega)])
  · have hjl : ¬ j = stl.length - 1 := fun q => h (by rw [q])
    iterate 1 refine hX ?_
    refine inc 0 ?_
    iterate 2 refine hX ?_
    refine And.intro (fun _ => ?_) (fun h => absurd rfl h)
    exact fin c 0 hcc (by rw [cnx, if_neg hjl])
end MN
