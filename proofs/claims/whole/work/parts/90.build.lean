/-! Growth: built. -/
def gwR (out gw : List Int32) : Prop := gw.length = 8000 ∧ out.length ≤ 8000 ∧ gw.take out.length = out
theorem gwR_push {out gw : List Int32} (h : gwR out gw) (ho : out.length < 8000) (c : Int32) : gwR (out ++ [c]) (gw.set out.length c) := by
  obtain ⟨h1, h2, h3⟩ := h
  refine ⟨by rw [List.length_set]; exact h1, by rw [List.length_append, List.length_singleton]; omega, ?_⟩
  rw [List.length_append, List.length_singleton, take_set (by omega), h3]
theorem gwR_at {out gw : List Int32} (h : gwR out gw) {k : Nat} (hk : k < out.length) : gw.getD k 0 = out.getD k 0 := by
  rw [← getD_take (n := out.length) hk, h.2.2]
theorem gwR_copy {out gw s : List Int32} {a : Nat} (h : gwR out gw) (hs : (out.drop a).take s.length = s) (ha : a + s.length ≤ out.length) (ho : out.length + s.length ≤ 8000) : gwR (out ++ s) (pCopy gw gw a out.length s.length) := by
  obtain ⟨h1, h2, h3⟩ := h
  have e : (gw.drop a).take s.length = s := by
    have : (gw.take out.length).drop a = out.drop a := by rw [h3]
    rw [List.drop_take] at this
    have h4 := congrArg (List.take s.length) this
    rw [List.take_take, Nat.min_eq_left (by omega), hs] at h4
    exact h4
  refine ⟨by rw [pCopy_len (by omega) (by omega)]; exact h1, by rw [List.length_append]; omega, ?_⟩
  rw [pCopy, h3, e, List.length_append, List.take_left' (by rw [List.length_append])]
/-- the terms whose rows are built, from place j up to e: where each lies in what is built -/
def bdI (bs : List (List Nat)) (l out sz pl : List Int32) (j e : Nat) : Prop := ∀ q, j ≤ q → q < e → (grw bs (l.drop q)).length ≤ 200 → ∃ a, pl.getD q 0 = nI a ∧ a + (grw bs (l.drop q)).length ≤ out.length ∧ (out.drop a).take (grw bs (l.drop q)).length = grw bs (l.drop q)
theorem seg_app {out r s : List Int32} {a : Nat} (h1 : a + s.length ≤ out.length) (h2 : (out.drop a).take s.length = s) : a + s.length ≤ (out ++ r).length ∧ ((out ++ r).drop a).take s.length = s := by
  refine ⟨by rw [List.length_append]; omega, ?_⟩
  rw [List.drop_append_of_le_length (by omega), List.take_append_of_le_length (by rw [List.length_drop]; omega)]
  exact h2
section GB
variable {sc : List Int32} {X : pX} {B : pB} {Q : pQ} {L S N D C w p o t kn sn sz pl gw : List Int32} {sd tt us : Int32}
theorem t_copyPart (hX : Cl sc X) (hB : 1 ≤ B.1) {out s : List Int32} {q a : Nat} (hq40 : q < 40) (hpl : pl.length = 40) (hsz : sz.length = 40) (hR : gwR out gw) (h1 : pl.getD q 0 = nI a) (h2 : sz.getD q 0 = nI s.length) (h3 : a + s.length ≤ out.length) (h4 : (out.drop a).take s.length = s) (h5 : out.length + s.length ≤ 8000) (hq : ∀ gw', gwR (out ++ s) gw' → Q none (GrW L S N D C sd tt w p o t kn sn sz pl gw' (nI (out ++ s).length))) : X B 43 0 [some (.ref 0), some (.int (nI q)), none, none] [] (GrW L S N D C sd tt w p o t kn sn sz pl gw (nI out.length)) Q := by
  repeat refine hX ?_
  refine And.intro (fun h => absurd h (nneg (by omega))) (fun _ => ?_)
  repeat refine hX ?_
  rw [hpl]
  refine And.intro (fun _ => ?_) (fun h => absurd ((nlt (by omega) (by omega)).mpr hq40) h)
  repeat refine hX ?_
  refine And.intro (vp_in_nI (by omega) (by omega)) ?_
  rw [nI_clamp (by omega), h1]
  repeat refine hX ?_
  refine And.intro (vp_in_nI (by omega) (by omega)) ?_
  rw [nI_clamp (by omega), h2]
  repeat refine hX ?_
  refine And.intro (fun h => absurd h (nneg (by omega))) (fun _ => ?_)
  repeat refine hX ?_
  refine And.intro (fun h => absurd h (nneg (by omega))) (fun _ => ?_)
  repeat refine hX ?_
  rw [nadd]
  refine And.intro (fun h => absurd ((nlt (by omega) (by omega)).mp h) (by omega)) (fun _ => ?_)
  repeat refine hX ?_
  rw [nadd]
  refine And.intro (fun h => absurd ((nlt (a := 8000) (by omega) (by omega)).mp h) (by omega)) (fun _ => ?_)
  repeat refine hX ?_
  refine And.intro ⟨⟨hB, Nat.le_of_ble_eq_true rfl⟩, ⟨nneg (by omega), nneg (by omega), nneg (by omega)⟩, by rw [nI_clamp (by omega), nI_clamp (by omega), hR.1]; omega, by rw [nI_clamp (by omega), nI_clamp (by omega), hR.1]; omega⟩ ?_
  rw [nI_clamp (by omega), nI_clamp (by omega), nI_clamp (by omega)]
  repeat refine hX ?_
  have := hq _ (gwR_copy hR h4 h3 h5)
  rw [List.length_append, ← nadd] at this
  exact this
theorem t_letterOf (hX : Cl sc X) {out : List Int32} {q a k : Nat} (hq40 : q < 40) (hpl : pl.length = 40) (hR : gwR out gw) (h1 : pl.getD q 0 = nI a) (h2 : a + k < out.length) (hq : Q (some (.int (out.getD (a + k) 0))) (GrW L S N D C sd tt w p o t kn sn sz pl gw us)) : X B 40 0 [some (.ref 0), some (.int (nI q)), some (.int (nI k)), none] [] (GrW L S N D C sd tt w p o t kn sn sz pl gw us) Q := by
  have := hR.2.1
  repeat refine hX ?_
  refine And.intro (fun h => absurd h (nneg (by omega))) (fun _ => ?_)
  repeat refine hX ?_
  rw [hpl]
  refine And.intro (fun _ => ?_) (fun h => absurd ((nlt (by omega) (by omega)).mpr hq40) h)
  repeat refine hX ?_
  refine And.intro (vp_in_nI (by omega) (by omega)) ?_
  rw [nI_clamp (by omega), h1]
  repeat refine hX ?_
  rw [nadd]
  refine And.intro (fun h => absurd h (nneg (by omega))) (fun _ => ?_)
  repeat refine hX ?_
  refine And.intro (fun h => absurd ((nle (a := 8000) (by omega) (by omega)).mp h) (by omega)) (fun _ => ?_)
  repeat refine hX ?_
  refine And.intro (vp_in_nI (by rw [hR.1]; omega) (by rw [hR.1]; omega)) ?_
  repeat refine hX ?_
  show Q (some (.int (gw.getD (nI (a + k)).toNatClampNeg 0))) _
  rw [nI_clamp (by omega), gwR_at hR h2]
  exact hq
theorem sub_cons1 {r : List Nat} {a1 a2 : List Int32} : sub (1 :: r) a1 a2 = a1 ++ sub r a1 a2 := rfl
theorem sub_cons2 {r : List Nat} {a1 a2 : List Int32} : sub (2 :: r) a1 a2 = a2 ++ sub r a1 a2 := rfl
theorem sub_cons3 {d : Nat} {r : List Nat} {a1 a2 : List Int32} (h1 : ¬ d = 1) (h2 : ¬ d = 2) : sub (d :: r) a1 a2 = ltN d :: sub r a1 a2 := by
  show (if d = 1 then a1 else if d = 2 then a2 else [ltN d]) ++ _ = _
  rw [if_neg h1, if_neg h2]; rfl
/-- a BODY's letters, one behind another -/
theorem t_build_row (hX : Cl sc X) (hB : 2 ≤ B.1) {b : List Nat} (hb : bOk b) {r0 e0 : Int32} {q q2 : Nat} (hq40 : q < 40) (hsn : sn.length = 40) (hsn2 : sn.getD q 0 = nI q2) (hpl : pl.length = 40) (hsz : sz.length = 40) {a1 a2 : List Int32} (p1 p2 : Nat) (out0 : List Int32)
    (c1 : 1 ≤ cf 1 b → q + 1 < 40 ∧ pl.getD (q + 1) 0 = nI p1 ∧ sz.getD (q + 1) 0 = nI a1.length ∧ p1 + a1.length ≤ out0.length ∧ (out0.drop p1).take a1.length = a1) (c2 : 1 ≤ cf 2 b → q2 < 40 ∧ pl.getD q2 0 = nI p2 ∧ sz.getD q2 0 = nI a2.length ∧ p2 + a2.length ≤ out0.length ∧ (out0.drop p2).take a2.length = a2) (kk : ∀ (gw : List Int32) (l5 l6 : Option Value), gwR (out0 ++ sub b a1 a2) gw → X B 42 171 [some (.ref 0), some (.int r0), some (.int e0), some (.int (nI q)), some (.int (nI (wC b))), l5, l6] [] (GrW L S N D C sd tt w p o t kn sn sz pl gw (nI (out0 ++ sub b a1 a2).length)) Q) :
    ∀ (n k : Nat), k + n = 6 → ∀ (y : List Nat) (r : List Int32) (gw : List Int32) (l6 : Option Value), b.drop k = y → (∀ c, cf c y ≤ cf c b) → out0 ++ r ++ sub y a1 a2 = out0 ++ sub b a1 a2 → (out0 ++ sub b a1 a2).length ≤ 8000 → gwR (out0 ++ r) gw → X B 42 76 [some (.ref 0), some (.int r0), some (.int e0), some (.int (nI q)), some (.int (nI (wC b))), some (.int (nI k)), l6] [] (GrW L S N D C sd tt w p o t kn sn sz pl gw (nI (out0 ++ r).length)) Q := by
  intro n
  induction n with
  | zero =>
    intro k hk y r gw l6 hy hcf he hlen hR
    have : k = 6 := by omega
    subst this
    have hy0 : y = [] := by rw [← hy]; exact List.drop_eq_nil_of_le hb.1
    subst hy0
    have he2 : out0 ++ r = out0 ++ sub b a1 a2 := by rw [← he]; simp [sub]
    rw [he2] at hR ⊢
    repeat refine hX ?_
    refine And.intro (fun _ => kk gw _ _ hR) (fun h => absurd (by decide) h)
  | succ n ih =>
    intro k hk y r gw l6 hy hcf he hlen hR
    repeat refine hX ?_
    refine And.intro (fun h => absurd ((nle (a := 6) (by omega) (by omega)).mp h) (by omega)) (fun _ => ?_)
    repeat refine hX ?_
    refine (cP [] [.int (nI (wC b)), .int (nI k)] [] (some (.int (ltN (b.getD k 0)))) [.int (ltN (b.getD k 0))] (by omega) rfl rfl rfl rfl (fun Q' hQ' => t_letterIn hX hb (by omega) hQ') ?_)
    by_cases hkb : k < b.length
    · have hd := bOk_dig hb k
      have hdy : b.drop k = b.getD k 0 :: b.drop (k + 1) := by
        rw [List.drop_eq_getElem_cons hkb, List.getD_eq_getElem?_getD, List.getElem?_eq_getElem hkb]; rfl
      rw [hdy] at hy
      generalize b.getD k 0 = d at hd hy ⊢
      subst hy
      have hd1 := hd.2 hkb
      have hcf2 : ∀ c, cf c (b.drop (k + 1)) ≤ cf c b := fun c => by have := hcf c; rw [cf] at this; omega
      have tail : ∀ (r' gw' : List Int32) (l6 : Option Value), out0 ++ r' ++ sub (b.drop (k + 1)) a1 a2 = out0 ++ sub b a1 a2 → gwR (out0 ++ r') gw' → X B 42 165 [some (.ref 0), some (.int r0), some (.int e0), some (.int (nI q)), some (.int (nI (wC b))), some (.int (nI k)), l6] [] (GrW L S N D C sd tt w p o t kn sn sz pl gw' (nI (out0 ++ r').length)) Q := by
        intro r' gw' l6 he' hR'
        iterate 2 refine hX ?_
        rw [show nI k + 1 = nI (k + 1) from (nI_succ k).symm]
        exact ih (k + 1) (by omega) _ r' gw' l6 rfl hcf2 he' hlen hR'
      by_cases e1 : d = 1
      · subst e1
        rw [sub_cons1] at he
        have hc := c1 (by have := hcf 1; rw [cf, if_pos rfl] at this; omega)
        have hs := seg_app (r := r) hc.2.2.2.1 hc.2.2.2.2
        have hlen2 : (out0 ++ r).length + a1.length ≤ 8000 := by rw [← he] at hlen; simp only [List.length_append] at hlen ⊢; omega
        repeat refine hX ?_
        refine And.intro (fun _ => ?_) (fun h => absurd (by decide) h)
        repeat refine hX ?_
        rw [show nI q + 1 = nI (q + 1) from (nI_succ q).symm]
        refine And.intro trivial (cMw [.ref 0, .int (nI (q + 1))] (fun g : List Int32 => gwR (out0 ++ r ++ a1) g) (fun _ => none) (fun g => GrW L S N D C sd tt w p o t kn sn sz pl g (nI (out0 ++ r ++ a1).length)) (by omega) rfl rfl (fun _ => rfl) (fun _ => rfl) (fun _ => rfl) (fun Q' hQ' => t_copyPart hX (by show 1 ≤ B.1 - 1; omega) hc.1 hpl hsz hR hc.2.1 hc.2.2.1 hs.1 hs.2 hlen2 hQ') (fun g hg => ?_))
        refine hX ?_
        rw [List.append_assoc] at hg ⊢
        exact tail (r ++ a1) g _ (by rw [← he]; simp) hg
      · by_cases e2 : d = 2
        · subst e2
          rw [sub_cons2] at he
          have hc := c2 (by have := hcf 2; rw [cf, if_pos rfl] at this; omega)
          have hs := seg_app (r := r) hc.2.2.2.1 hc.2.2.2.2
          have hlen2 : (out0 ++ r).length + a2.length ≤ 8000 := by rw [← he] at hlen; simp only [List.length_append] at hlen ⊢; omega
          repeat refine hX ?_
          refine And.intro (fun h => absurd h (by decide)) (fun _ => ?_)
          repeat refine hX ?_
          refine And.intro (fun _ => ?_) (fun h => absurd (by decide) h)
          repeat refine hX ?_
          refine And.intro (vp_in_nI (by omega) (by omega)) ?_
          rw [nI_clamp (by omega), hsn2]
          refine hX (And.intro trivial (cMw [.ref 0, .int (nI q2)] (fun g : List Int32 => gwR (out0 ++ r ++ a2) g) (fun _ => none) (fun g => GrW L S N D C sd tt w p o t kn sn sz pl g (nI (out0 ++ r ++ a2).length)) (by omega) rfl rfl (fun _ => rfl) (fun _ => rfl) (fun _ => rfl) (fun Q' hQ' => t_copyPart hX (by show 1 ≤ B.1 - 1; omega) hc.1 hpl hsz hR hc.2.1 hc.2.2.1 hs.1 hs.2 hlen2 hQ') (fun g hg => ?_)))
          refine hX ?_
          rw [List.append_assoc] at hg ⊢
          exact tail (r ++ a2) g _ (by rw [← he]; simp) hg
        · rw [sub_cons3 e1 e2] at he
          have hlt : ¬ ltN d = 49 ∧ ¬ ltN d = 50 ∧ ¬ ltN d = 0 := (show ∀ c, c < 7 → 3 ≤ c → ¬ ltN c = 49 ∧ ¬ ltN c = 50 ∧ ¬ ltN c = 0 by decide) d (by omega) (by omega)
          have hlen2 : (out0 ++ r).length < 8000 := by rw [← he] at hlen; simp only [List.length_append, List.length_cons] at hlen ⊢; omega
          repeat refine hX ?_
          refine And.intro (fun h => absurd h hlt.1) (fun _ => ?_)
          repeat refine hX ?_
          refine And.intro (fun h => absurd h hlt.2.1) (fun _ => ?_)
          repeat refine hX ?_
          refine And.intro (fun h => absurd h hlt.2.2) (fun _ => ?_)
          repeat refine hX ?_
          refine And.intro (fun h => absurd ((nle (a := 8000) (by omega) (by omega)).mp h) (by omega)) (fun _ => ?_)
          repeat refine hX ?_
          refine And.intro (vp_in_nI (by rw [hR.1]; omega) (by rw [hR.1]; omega)) ?_
          rw [nI_clamp (by omega)]
          iterate 6 refine hX ?_
          have := tail (r ++ [ltN d]) _ (some (.int (ltN d))) (by rw [← he]; simp) (by rw [← List.append_assoc]; exact gwR_push hR hlen2 (ltN d))
          rw [show (out0 ++ (r ++ [ltN d])).length = (out0 ++ r).length + 1 by simp only [List.length_append, List.length_singleton]; omega, nI_succ] at this
          exact this
    · have hyn : y = [] := by rw [← hy]; exact List.drop_eq_nil_of_le (by omega)
      subst hyn
      rw [getD_out (by omega)]
      repeat refine hX ?_
      refine And.intro (fun h => absurd h (by decide)) (fun _ => ?_)
      repeat refine hX ?_
      refine And.intro (fun h => absurd h (by decide)) (fun _ => ?_)
      repeat refine hX ?_
      refine And.intro (fun _ => ?_) (fun h => absurd rfl h)
      iterate 2 refine hX ?_
      rw [show nI k + 1 = nI (k + 1) from (nI_succ k).symm]
      exact ih (k + 1) (by omega) [] r gw _ (List.drop_eq_nil_of_le (by omega)) hcf he hlen hR
end GB
