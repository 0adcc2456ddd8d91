/-! Growth: measured, built. -/
theorem min_mul {a A : Nat} (c r : Nat) (h : a = min 201 A) : min 201 (r + c * a) = min 201 (r + c * A) := by
  by_cases hA : A ≤ 201
  · rw [Nat.min_eq_right hA] at h; rw [h]
  · rw [Nat.min_eq_left (by omega)] at h
    subst h
    cases c with
    | zero => simp
    | succ c =>
      have h1 : (c + 1) * 201 = c * 201 + 201 := Nat.succ_mul c 201
      have h2 : (c + 1) * A = c * A + A := Nat.succ_mul c A
      rw [Nat.min_eq_left (by omega), Nat.min_eq_left (by omega)]
theorem min_mul2 {a A b B : Nat} (c d r : Nat) (h1 : c = 0 ∨ a = min 201 A) (h2 : d = 0 ∨ b = min 201 B) : min 201 (r + c * a + d * b) = min 201 (r + c * A + d * B) := by
  have e1 : min 201 (r + c * a + d * b) = min 201 (r + c * A + d * b) := by
    rcases h1 with rfl | h1
    · simp
    · have := min_mul c (r + d * b) h1
      rw [show r + d * b + c * a = r + c * a + d * b by omega, show r + d * b + c * A = r + c * A + d * b by omega] at this
      exact this
  rw [e1]
  rcases h2 with rfl | h2
  · simp
  · exact min_mul d _ h2
theorem cf_le6 {b : List Nat} (h : bOk b) (c : Nat) : cf c b ≤ 6 := by
  have key : ∀ (b : List Nat), cf c b ≤ b.length := by
    intro b
    induction b with
    | nil => simp [cf]
    | cons d r ih => rw [cf, List.length_cons]; split <;> omega
  have := key b
  have := h.1
  omega
theorem sec_2 {l : List Int32} {q : Nat} (h : arN (l.getD q 0) = 2) : sec l q = q + 1 + tlen (l.drop (q + 1)) 1 := by rw [sec, if_pos h]
theorem sec_le {l : List Int32} {q : Nat} (hq : q < l.length) : sec l q ≤ l.length := by
  unfold sec
  split
  · have := tlen_le (l.drop (q + 1)) 1
    rw [List.length_drop] at this
    omega
  · omega
/-- the places of a term's letters: where its parts begin lies among them -/
theorem inside {l x xr : List Int32} {p0 j : Nat} (h1 : l.drop p0 = x ++ xr) (h2 : okF x 1 = true) (hj : p0 ≤ j) (hj2 : j < p0 + x.length) : (1 ≤ arN (l.getD j 0) → j + 1 < p0 + x.length) ∧ (2 ≤ arN (l.getD j 0) → j + 1 + tlen (l.drop (j + 1)) 1 < p0 + x.length) := by
  have e : l.drop j = x.drop (j - p0) ++ xr := by
    have := drop_split (k := j - p0) h1 (by omega)
    rw [show p0 + (j - p0) = j by omega] at this
    exact this
  obtain ⟨m, hm⟩ := okF_suffix x 1 (j - p0) h2 (by omega)
  have hlx : (x.drop (j - p0)).length = x.length - (j - p0) := List.length_drop
  cases hx : x.drop (j - p0) with
  | nil => rw [hx] at hlx; simp at hlx; omega
  | cons c y =>
    rw [hx] at e hm hlx
    rw [List.length_cons] at hlx
    obtain ⟨k1, k2, k3⟩ := drop_head e
    obtain ⟨k, rfl, hk⟩ := okF_cons hm
    rw [k2]
    constructor
    · intro ha
      have := okF_pos hk (by omega)
      omega
    · intro ha
      have ha2 : arN c = 2 := by have := arN_le c; omega
      rw [ha2] at hk
      have hok2 := okF_drop y 1 (k + 1) (by rw [show 1 + (k + 1) = k + 2 by omega]; exact hk)
      have := okF_pos hok2 (by omega)
      rw [List.length_drop] at this
      rw [k3, tlen_app (b := k + 1) (by rw [show 1 + (k + 1) = k + 2 by omega]; exact hk)]
      omega
section GM
variable {sc : List Int32} {X : pX} {B : pB} {Q : pQ} {L S N D C w p o t kn sn pl gw : List Int32} {sd tt us : Int32}
/-- a letter's row of GC, with what its parts are -/
theorem GC_at {l : List Int32} {bs : List (List Nat)} (hG : GC l L N D C bs w p o t kn sn) {nn : Nat} (hf : okF l nn = true) {q : Nat} (hq : q < l.length) (hv : bv (arN (l.getD q 0)) (bs.getD (kN (l.getD q 0)) [])) {a1 a2 : List Int32} (h1 : 1 ≤ arN (l.getD q 0) → a1 = grw bs (l.drop (q + 1))) (h2 : 2 ≤ arN (l.getD q 0) → a2 = grw bs (l.drop (q + 1 + tlen (l.drop (q + 1)) 1))) : grw bs (l.drop q) = sub (bs.getD (kN (l.getD q 0)) []) a1 a2 := by
  obtain ⟨m, hm⟩ := okF_suffix l nn q hf (by omega)
  rw [drop_cons hq] at hm
  obtain ⟨k, rfl, hk⟩ := okF_cons hm
  rw [drop_cons hq]
  exact grw_cons hk hv h1 (fun h => by rw [h2 h, List.drop_drop])
theorem t_gmeasure_loop (hX : Cl sc X) (hB : 2 ≤ B.1) {l : List Int32} {bs : List (List Nat)} (hG : GC l L N D C bs w p o t kn sn) {nn : Nat} (hf : okF l nn = true) {x xr : List Int32} {p0 : Nat} (h1 : l.drop p0 = x ++ xr) (h2 : okF x 1 = true) (hv : ∀ c ∈ x, bv (arN c) (bs.getD (kN c) [])) (hx : p0 + x.length ≤ l.length) {sz0 : List Int32}
    (hq : ∀ sz, szI sz → (∀ q, p0 ≤ q → q < p0 + x.length → sz.getD q 0 = nI (min 201 (grw bs (l.drop q)).length)) → (∀ q, q < p0 ∨ p0 + x.length ≤ q → sz.getD q 0 = sz0.getD q 0) → Q none (GrW L S N D C sd tt w p o t kn sn sz pl gw us)) :
    ∀ (k : Nat), k ≤ x.length → ∀ (sz : List Int32) (l4 : Option Value), szI sz → (∀ q, p0 + k ≤ q → q < p0 + x.length → sz.getD q 0 = nI (min 201 (grw bs (l.drop q)).length)) → (∀ q, q < p0 ∨ p0 + x.length ≤ q → sz.getD q 0 = sz0.getD q 0) → X B 41 23 [some (.ref 0), some (.int (nI p0)), some (.int (nI (p0 + x.length))), some (.int (nI (p0 + k) + -1)), l4] [] (GrW L S N D C sd tt w p o t kn sn sz pl gw us) Q := by
  obtain ⟨⟨g1, g2, g3, g4, g5, g6⟩, ⟨g7, g8⟩, g9⟩ := id hG
  intro k
  induction k with
  | zero =>
    intro _ sz l4 hz hin hout
    repeat refine hX ?_
    refine And.intro (fun _ => ?_) (fun h => absurd ?_ h)
    · repeat refine hX ?_
      exact hq sz hz (fun q a b => hin q (by omega) b) hout
    · cases p0 with
      | zero => decide
      | succ m => rw [Nat.add_zero, nI_predA]; exact (nlt (by omega) (by omega)).mpr (by omega)
  | succ k ih =>
    intro hk sz l4 hz hin hout
    have hjl : p0 + k < l.length := by omega
    rw [show p0 + (k + 1) = p0 + k + 1 by omega, nI_predA]
    obtain ⟨n1, n2⟩ := g9 (p0 + k) hjl
    obtain ⟨i1, i2⟩ := inside h1 h2 (j := p0 + k) (by omega) (by omega)
    have hcx : l.getD (p0 + k) 0 ∈ x := by
      have e := drop_split (k := k) h1 (by omega)
      have e2 := drop_cons hjl
      rw [e] at e2
      have hne : k < x.length := by omega
      rw [List.drop_eq_getElem_cons hne, List.cons_append, List.cons.injEq] at e2
      rw [← e2.1]
      exact List.getElem_mem hne
    have hvc := hv _ hcx
    have hkd := kN_ok (g5 _ (getD_mem (d := 0) hjl))
    have hse := sec_le hjl
    obtain ⟨a, ha1, ha2⟩ := szI_any hz (p0 + k + 1)
    obtain ⟨b, hb1, hb2⟩ := szI_any hz (sec l (p0 + k))
    have hA : 1 ≤ arN (l.getD (p0 + k) 0) → a = min 201 (grw bs (l.drop (p0 + k + 1))).length := by
      intro h
      have := hin (p0 + k + 1) (by omega) (i1 h)
      rw [ha2] at this
      exact (neq (by omega) (by omega)).mp this
    have hBb : 2 ≤ arN (l.getD (p0 + k) 0) → b = min 201 (grw bs (l.drop (p0 + k + 1 + tlen (l.drop (p0 + k + 1)) 1))).length := by
      intro h
      rw [sec_2 (by have := arN_le (l.getD (p0 + k) 0); omega)] at hb2
      have := hin _ (by omega) (i2 h)
      rw [hb2] at this
      exact (neq (by omega) (by omega)).mp this
    have hsz : min 201 (grw bs (l.drop (p0 + k))).length = min 201 (cl (bs.getD (kN (l.getD (p0 + k) 0)) []) + cf 1 (bs.getD (kN (l.getD (p0 + k) 0)) []) * a + cf 2 (bs.getD (kN (l.getD (p0 + k) 0)) []) * b) := by
      rw [GC_at hG hf hjl hvc (fun _ => rfl) (fun _ => rfl), sub_len]
      refine (min_mul2 _ _ _ ?_ ?_).symm
      · by_cases h : 1 ≤ arN (l.getD (p0 + k) 0)
        · exact Or.inr (hA h)
        · exact Or.inl (hvc.2.1 (by omega))
      · by_cases h : 2 ≤ arN (l.getD (p0 + k) 0)
        · exact Or.inr (hBb h)
        · exact Or.inl (hvc.2.2 (by omega))
    repeat refine hX ?_
    refine And.intro (fun h => absurd ((nlt (by omega) (by omega)).mp h) (by omega)) (fun _ => ?_)
    repeat refine hX ?_
    refine And.intro (fun h => absurd h (nneg (by omega))) (fun _ => ?_)
    repeat refine hX ?_
    refine And.intro (vp_in_nI (by omega) (by omega)) ?_
    rw [nI_clamp (by omega), n1]
    repeat refine hX ?_
    rw [show nI (p0 + k) + 1 = nI (p0 + k + 1) from (nI_succ _).symm]
    refine And.intro trivial (cP [0, 1, 2, 3, 4, 5, 6, 7, 8, 9, 10, 11, 12, 13, 14, 15, 16] [.ref 0, .int (nI (p0 + k + 1))] (GrW L S N D C sd tt w p o t kn sn sz pl gw us) (some (.int (sz.getD (p0 + k + 1) 0))) [.int (sz.getD (p0 + k + 1) 0), .int (nI (kN (l.getD (p0 + k) 0))), .ref 7] (by omega) rfl rfl rfl rfl (fun Q' hQ' => t_sizeAt hX (by omega) hz.1 hQ') ?_)
    rw [ha2]
    repeat refine hX ?_
    refine And.intro (vp_in_nI (by omega) (by omega)) ?_
    rw [nI_clamp (by omega), n2]
    refine hX (And.intro trivial (cP [0, 1, 2, 3, 4, 5, 6, 7, 8, 9, 10, 11, 12, 13, 14, 15, 16] [.ref 0, .int (nI (sec l (p0 + k)))] (GrW L S N D C sd tt w p o t kn sn sz pl gw us) (some (.int (sz.getD (sec l (p0 + k)) 0))) [.int (sz.getD (sec l (p0 + k)) 0), .int (nI a), .int (nI (kN (l.getD (p0 + k) 0))), .ref 7] (by omega) rfl rfl rfl rfl (fun Q' hQ' => t_sizeAt hX (by omega) hz.1 hQ') ?_))
    rw [hb2]
    refine hX (And.intro trivial (cP [7, 8, 9, 10, 11] [.ref 0, .int (nI (kN (l.getD (p0 + k) 0))), .int (nI a), .int (nI b)] (ChW w p o t) (some (.int (nI (cl (bs.getD (kN (l.getD (p0 + k) 0)) []) + cf 1 (bs.getD (kN (l.getD (p0 + k) 0)) []) * a + cf 2 (bs.getD (kN (l.getD (p0 + k) 0)) []) * b)))) [.int (nI (cl (bs.getD (kN (l.getD (p0 + k) 0)) []) + cf 1 (bs.getD (kN (l.getD (p0 + k) 0)) []) * a + cf 2 (bs.getD (kN (l.getD (p0 + k) 0)) []) * b))] (by omega) rfl rfl rfl rfl (fun Q' hQ' => t_nodesWith hX g6 hkd.2 hQ') ?_))
    have hbnd : cl (bs.getD (kN (l.getD (p0 + k) 0)) []) + cf 1 (bs.getD (kN (l.getD (p0 + k) 0)) []) * a + cf 2 (bs.getD (kN (l.getD (p0 + k) 0)) []) * b < 100000 := by
      have e1 := Nat.mul_le_mul (cf_le6 hvc.1 1) ha1
      have e2 := Nat.mul_le_mul (cf_le6 hvc.1 2) hb1
      have e3 : cl (bs.getD (kN (l.getD (p0 + k) 0)) []) ≤ 6 := by unfold cl; have := hvc.1.1; omega
      omega
    generalize hM : cl (bs.getD (kN (l.getD (p0 + k) 0)) []) + cf 1 (bs.getD (kN (l.getD (p0 + k) 0)) []) * a + cf 2 (bs.getD (kN (l.getD (p0 + k) 0)) []) * b = M at hsz hbnd ⊢
    repeat refine hX ?_
    refine And.intro ⟨by omega, Nat.le_of_ble_eq_true rfl⟩ ?_
    rw [show (if (201 : Int32) < nI M then (201 : Int32) else nI M) = nI (min 201 M) by rw [Nat.min_comm]; exact nmin (a := M) (b := 201) (by omega) (by omega), ← hsz]
    refine hX (And.intro (vp_in_nI (by rw [hz.1]; omega) (by rw [hz.1]; omega)) ?_)
    rw [nI_clamp (by omega)]
    iterate 2 refine hX ?_
    refine ih (by omega) _ _ ⟨by rw [List.length_set]; exact hz.1, fun q hq => ?_⟩ (fun q hq1 hq2 => ?_) (fun q hq => ?_)
    · by_cases e : p0 + k = q
      · subst e
        rw [getD_set_eq (by rw [hz.1]; omega)]
        exact ⟨_, by omega, rfl⟩
      · rw [getD_set_ne e]
        exact hz.2 q hq
    · by_cases e : p0 + k = q
      · subst e
        exact getD_set_eq (by rw [hz.1]; omega)
      · rw [getD_set_ne e]
        exact hin q (by omega) hq2
    · rw [getD_set_ne (by omega)]
      exact hout q hq
theorem t_gmeasure (hX : Cl sc X) (hB : 2 ≤ B.1) {l : List Int32} {bs : List (List Nat)} (hG : GC l L N D C bs w p o t kn sn) {nn : Nat} (hf : okF l nn = true) {x xr : List Int32} {p0 : Nat} (h1 : l.drop p0 = x ++ xr) (h2 : okF x 1 = true) (hv : ∀ c ∈ x, bv (arN c) (bs.getD (kN c) [])) {sz0 : List Int32} (hz : szI sz0)
    (hq : ∀ sz, szI sz → (∀ q, p0 ≤ q → q < p0 + x.length → sz.getD q 0 = nI (min 201 (grw bs (l.drop q)).length)) → (∀ q, q < p0 ∨ p0 + x.length ≤ q → sz.getD q 0 = sz0.getD q 0) → Q none (GrW L S N D C sd tt w p o t kn sn sz pl gw us)) : X B 41 0 [some (.ref 0), some (.int (nI p0)), none, none, none] [] (GrW L S N D C sd tt w p o t kn sn sz0 pl gw us) Q := by
  obtain ⟨⟨g1, g2, g3, g4, g5, g6⟩, ⟨g7, g8⟩, g9⟩ := id hG
  have hp : p0 < l.length ∧ p0 + x.length ≤ l.length := by
    have := congrArg List.length h1
    have := okF_pos h2 (by omega)
    rw [List.length_drop, List.length_append] at *
    omega
  repeat refine hX ?_
  refine And.intro trivial (cP [1, 2, 3, 4, 5, 6] [.ref 0, .int (nI p0)] (EqW L S N D C sd tt) (some (.int (N.getD p0 0))) [.int (N.getD p0 0), .int (nI p0)] (by omega) rfl rfl rfl rfl (fun Q' hQ' => t_nodesAt hX (by omega) g4.1.1 hQ') ?_)
  rw [(g4.2 p0 hp.1).1, h1, okF_tlen x xr 1 h2]
  repeat refine hX ?_
  rw [nadd, hz.1]
  refine And.intro ⟨by omega, Nat.le_of_ble_eq_true rfl⟩ ?_
  rw [nmin (a := p0 + x.length) (b := 40) (by omega) (by omega), Nat.min_eq_left (by omega)]
  iterate 5 refine hX ?_
  rw [Int32.sub_eq_add_neg]
  exact t_gmeasure_loop hX hB hG hf h1 h2 hv hp.2 hq x.length (Nat.le_refl _) sz0 none hz (fun q a b => by omega) (fun q _ => rfl)
end GM
