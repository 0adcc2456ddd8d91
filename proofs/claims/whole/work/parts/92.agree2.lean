/-! Growth: two terms compared. -/
theorem seg_get {out s : List Int32} {a k : Nat} (h : (out.drop a).take s.length = s) (hk : k < s.length) : out.getD (a + k) 0 = s.getD k 0 := by
  have e : ((out.drop a).take s.length).getD k 0 = s.getD k 0 := by rw [h]
  rw [getD_take hk, List.getD_eq_getElem?_getD, List.getElem?_drop, ← List.getD_eq_getElem?_getD] at e
  exact e
section AG
variable {sc : List Int32} {X : pX} {B : pB} {Q : pQ} {L S N D C w p o t kn sn sz pl gw : List Int32} {sd tt us : Int32}
theorem t_agree_loop (hX : Cl sc X) (hB : 1 ≤ B.1) {out s1 s2 : List Int32} {p1 p2 a b : Nat} (hp1 : p1 < 40) (hp2 : p2 < 40) (hsz : sz.length = 40) (hpl : pl.length = 40) (hR : gwR out gw) (z1 : sz.getD p1 0 = nI s1.length) (e1 : pl.getD p1 0 = nI a) (e2 : a + s1.length ≤ out.length) (e3 : (out.drop a).take s1.length = s1) (f1 : pl.getD p2 0 = nI b) (f2 : b + s2.length ≤ out.length) (f3 : (out.drop b).take s2.length = s2) (hl : s1.length = s2.length) (h200 : s1.length ≤ 200) :
    ∀ (n k : Nat), k + n = s1.length → Q (some (.int (if s1.drop k = s2.drop k then 1 else 0))) (GrW L S N D C sd tt w p o t kn sn sz pl gw us) → X B 38 53 [some (.ref 0), some (.int (nI p1)), some (.int (nI p2)), some (.int (nI k))] [] (GrW L S N D C sd tt w p o t kn sn sz pl gw us) Q := by
  intro n
  induction n with
  | zero =>
    intro k hk hq
    have : k = s1.length := by omega
    subst this
    rw [List.drop_length, hl, List.drop_length, if_pos rfl] at hq
    repeat refine hX ?_
    refine And.intro trivial (cPw [.ref 0, .int (nI p1)] (some (.int (sz.getD p1 0))) hB rfl rfl rfl (fun Q' hQ' => t_sizeAt hX (by omega) hsz hQ') ?_)
    rw [z1]
    refine hX (And.intro (fun _ => ?_) (fun h => absurd (Int32.le_refl _) h))
    repeat refine hX ?_
    exact And.intro (Or.inr rfl) hq
  | succ n ih =>
    intro k hk hq
    have d1 : s1.drop k = s1.getD k 0 :: s1.drop (k + 1) := drop_cons (by omega)
    have d2 : s2.drop k = s2.getD k 0 :: s2.drop (k + 1) := drop_cons (by omega)
    rw [d1, d2] at hq
    repeat refine hX ?_
    refine And.intro trivial (cPw [.ref 0, .int (nI p1)] (some (.int (sz.getD p1 0))) hB rfl rfl rfl (fun Q' hQ' => t_sizeAt hX (by omega) hsz hQ') ?_)
    rw [z1]
    refine hX (And.intro (fun h => absurd ((nle (by omega) (by omega)).mp h) (by omega)) (fun _ => ?_))
    repeat refine hX ?_
    refine And.intro trivial (cPw [.ref 0, .int (nI p1), .int (nI k)] (some (.int (out.getD (a + k) 0))) hB rfl rfl rfl (fun Q' hQ' => t_letterOf hX hp1 hpl hR e1 (by omega) hQ') ?_)
    rw [seg_get e3 (by omega)]
    repeat refine hX ?_
    refine And.intro trivial (cPw [.ref 0, .int (nI p2), .int (nI k)] (some (.int (out.getD (b + k) 0))) hB rfl rfl rfl (fun Q' hQ' => t_letterOf hX hp2 hpl hR f1 (by omega) hQ') ?_)
    rw [seg_get f3 (by omega)]
    refine hX (And.intro (fun h => ?_) (fun h => ?_))
    · iterate 2 refine hX ?_
      rw [show nI k + 1 = nI (k + 1) from (nI_succ k).symm]
      refine ih (k + 1) (by omega) ?_
      rw [h] at hq
      simp only [List.cons.injEq, true_and] at hq
      exact hq
    · rw [if_neg (fun q => h (List.cons.inj q).1)] at hq
      repeat refine hX ?_
      exact And.intro (Or.inl rfl) hq
/-- the two become the same, of no more than 200 letters -/
theorem t_agree (hX : Cl sc X) (hB : 4 ≤ B.1) {l : List Int32} {bs : List (List Nat)} (hG : GC l L N D C bs w p o t kn sn) {nn : Nat} (hf : okF l nn = true) {x xr y yr : List Int32} {p1 p2 : Nat} (h1 : l.drop p1 = x ++ xr) (h2 : okF x 1 = true) (h3 : l.drop p2 = y ++ yr) (h4 : okF y 1 = true) (hap : p1 + x.length ≤ p2) (hv : ∀ c ∈ x, bv (arN c) (bs.getD (kN c) [])) (hv2 : ∀ c ∈ y, bv (arN c) (bs.getD (kN c) [])) (hz : szI sz) (hpl : pl.length = 40) (hgw : gw.length = 8000) (hq : ∀ sz pl gw us, szI sz → pl.length = 40 → gw.length = 8000 → Q (some (.int (if (grw bs (l.drop p1)).length ≤ 200 ∧ grw bs (l.drop p1) = grw bs (l.drop p2) then 1 else 0))) (GrW L S N D C sd tt w p o t kn sn sz pl gw us)) : X B 38 0 [some (.ref 0), some (.int (nI p1)), some (.int (nI p2)), none] [] (GrW L S N D C sd tt w p o t kn sn sz pl gw us) Q := by
  have hx := okF_pos h2 (by omega)
  have hy := okF_pos h4 (by omega)
  have hp : p1 < 40 ∧ p2 < 40 ∧ x.length + y.length ≤ 40 := by
    have k1 := congrArg List.length h1
    have k3 := congrArg List.length h3
    have := hG.1.1
    rw [List.length_drop, List.length_append] at k1 k3
    omega
  repeat refine hX ?_
  refine And.intro trivial (cMw [.ref 0, .int (nI p1)] (fun s : List Int32 => szI s ∧ ∀ q, p1 ≤ q → q < p1 + x.length → s.getD q 0 = nI (min 201 (grw bs (l.drop q)).length)) (fun _ => none) (fun s => GrW L S N D C sd tt w p o t kn sn s pl gw us) (by omega) rfl rfl (fun _ => rfl) (fun _ => rfl) (fun _ => rfl) (fun Q' hQ' => t_gmeasure hX (by show 2 ≤ B.1 - 1; omega) hG hf h1 h2 hv hz (fun s a b c => hQ' s ⟨a, b⟩)) (fun s hs => ?_))
  repeat refine hX ?_
  refine And.intro trivial (cMw [.ref 0, .int (nI p2)] (fun s2 : List Int32 => szI s2 ∧ (∀ q, p1 ≤ q → q < p1 + x.length → s2.getD q 0 = nI (min 201 (grw bs (l.drop q)).length)) ∧ ∀ q, p2 ≤ q → q < p2 + y.length → s2.getD q 0 = nI (min 201 (grw bs (l.drop q)).length)) (fun _ => none) (fun s => GrW L S N D C sd tt w p o t kn sn s pl gw us) (by omega) rfl rfl (fun _ => rfl) (fun _ => rfl) (fun _ => rfl) (fun Q' hQ' => t_gmeasure hX (by show 2 ≤ B.1 - 1; omega) hG hf h3 h4 hv2 hs.1 (fun s2 a b c => hQ' s2 ⟨a, fun q q1 q2 => by rw [c q (by omega)]; exact hs.2 q q1 q2, b⟩)) (fun s2 hs2 => ?_))
  obtain ⟨z0, z1, z2⟩ := hs2
  have y1 := z1 p1 (by omega) (by omega)
  have y2 := z2 p2 (by omega) (by omega)
  repeat refine hX ?_
  refine And.intro trivial (cPw [.ref 0, .int (nI p1)] (some (.int (s2.getD p1 0))) (by omega) rfl rfl rfl (fun Q' hQ' => t_sizeAt hX (by omega) z0.1 hQ') ?_)
  rw [y1]
  repeat refine hX ?_
  by_cases h200 : (grw bs (l.drop p1)).length ≤ 200
  · rw [Nat.min_eq_right (by omega)] at y1 ⊢
    refine And.intro (fun h => absurd ((nlt (a := 200) (by omega) (by omega)).mp h) (by omega)) (fun _ => ?_)
    repeat refine hX ?_
    refine And.intro trivial (cPw [.ref 0, .int (nI p1)] (some (.int (s2.getD p1 0))) (by omega) rfl rfl rfl (fun Q' hQ' => t_sizeAt hX (by omega) z0.1 hQ') ?_)
    rw [y1]
    repeat refine hX ?_
    refine And.intro trivial (cPw [.ref 0, .int (nI p2)] (some (.int (s2.getD p2 0))) (by omega) rfl rfl rfl (fun Q' hQ' => t_sizeAt hX (by omega) z0.1 hQ') ?_)
    rw [y2]
    refine hX (And.intro (fun h => ?_) (fun h => ?_))
    · have hl : (grw bs (l.drop p1)).length = (grw bs (l.drop p2)).length := by
        have := (neq (by omega) (by omega)).mp h
        omega
      repeat refine hX ?_
      refine And.intro trivial (cMw [.ref 0, .int (nI p1)] (fun u : List Int32 × List Int32 × List Int32 => u.2.1.length = 40 ∧ gwR u.1 u.2.2 ∧ u.1.length ≤ 200 * x.length ∧ bdI bs l u.1 s2 u.2.1 p1 (p1 + x.length)) (fun _ => none) (fun u => GrW L S N D C sd tt w p o t kn sn s2 u.2.1 u.2.2 (nI u.1.length)) (by omega) rfl rfl (fun _ => rfl) (fun _ => rfl) (fun _ => rfl) (fun Q' hQ' => t_build (base := []) hX (by show 3 ≤ B.1 - 1; omega) hG hf h1 h2 hv z0 z1 hpl ⟨hgw, by simp, by simp⟩ (by simp; omega) (fun out pl gw a b _ d e _ => hQ' (out, pl, gw) ⟨a, b, by simpa using d, e⟩)) (fun u hu => ?_))
      obtain ⟨u1, u2, u3⟩ := u
      obtain ⟨v1, v2, v3, v4⟩ := hu
      dsimp only at v1 v2 v3 v4 ⊢
      repeat refine hX ?_
      refine And.intro trivial (cMw [.ref 0, .int (nI p2)] (fun u : List Int32 × List Int32 × List Int32 => u.2.1.length = 40 ∧ gwR u.1 u.2.2 ∧ (∃ r, u.1 = u1 ++ r) ∧ bdI bs l u.1 s2 u.2.1 p2 (p2 + y.length) ∧ u.2.1.getD p1 0 = u2.getD p1 0) (fun _ => none) (fun u => GrW L S N D C sd tt w p o t kn sn s2 u.2.1 u.2.2 (nI u.1.length)) (by omega) rfl rfl (fun _ => rfl) (fun _ => rfl) (fun _ => rfl) (fun Q' hQ' => t_build (base := u1) hX (by show 3 ≤ B.1 - 1; omega) hG hf h3 h4 hv2 z0 z2 v1 v2 (by omega) (fun out pl gw a b c _ e f => hQ' (out, pl, gw) ⟨a, b, c, e, f p1 (by omega)⟩)) (fun u hu => ?_))
      obtain ⟨t1, t2, t3⟩ := u
      obtain ⟨q1, q2, ⟨r, q3⟩, q4, q5⟩ := hu
      dsimp only at q1 q2 q3 q4 q5 ⊢
      subst q3
      obtain ⟨a, e1, e2, e3⟩ := v4 p1 (by omega) (by omega) h200
      obtain ⟨b, f1, f2, f3⟩ := q4 p2 (by omega) (by omega) (by omega)
      have hs := seg_app (r := r) e2 e3
      iterate 2 refine hX ?_
      refine t_agree_loop hX (by omega) hp.1 hp.2.1 z0.1 q1 q2 y1 (q5.trans e1) hs.1 hs.2 f1 f2 f3 hl h200 (grw bs (l.drop p1)).length 0 (by omega) ?_
      have := hq s2 t2 t3 (nI (u1 ++ r).length) z0 q1 q2.1
      by_cases heq : grw bs (l.drop p1) = grw bs (l.drop p2)
      · rw [if_pos ⟨h200, heq⟩] at this
        rw [if_pos (by rw [heq])]
        exact this
      · rw [if_neg (fun z => heq z.2)] at this
        rw [if_neg (by simpa using heq)]
        exact this
    · have := hq s2 pl gw us z0 hpl hgw
      rw [if_neg (fun z => h (by rw [← z.2, Nat.min_eq_right (by omega)]))] at this
      repeat refine hX ?_
      exact And.intro (Or.inl rfl) this
  · have := hq s2 pl gw us z0 hpl hgw
    rw [if_neg (fun z => h200 z.1)] at this
    rw [Nat.min_eq_left (by omega)]
    refine And.intro (fun _ => ?_) (fun h => absurd (by decide) h)
    repeat refine hX ?_
    exact And.intro (Or.inl rfl) this
end AG
