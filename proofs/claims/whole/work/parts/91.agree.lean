/-! Growth: a term built; two compared. -/
theorem cf_pos_bv {a : Nat} {b : List Nat} (h : bv a b) : (1 ≤ cf 1 b → 1 ≤ a) ∧ (1 ≤ cf 2 b → 2 ≤ a) := by
  constructor
  · intro h1
    by_cases ha : a < 1
    · have := h.2.1 ha; omega
    · omega
  · intro h1
    by_cases ha : a < 2
    · have := h.2.2 ha; omega
    · omega
theorem mul_ge {c a : Nat} (h : 1 ≤ c) : a ≤ c * a := by
  have := Nat.mul_le_mul_right a h
  omega
section GA
variable {sc : List Int32} {X : pX} {B : pB} {Q : pQ} {L S N D C w p o t kn sn sz : List Int32} {sd tt : Int32}
theorem t_build_loop (hX : Cl sc X) (hB : 3 ≤ B.1) {l : List Int32} {bs : List (List Nat)} (hG : GC l L N D C bs w p o t kn sn) {nn : Nat} (hf : okF l nn = true) {x xr : List Int32} {p0 : Nat} (h1 : l.drop p0 = x ++ xr) (h2 : okF x 1 = true) (hv : ∀ c ∈ x, bv (arN c) (bs.getD (kN c) [])) (hx : p0 + x.length ≤ l.length) (hz : szI sz) (hin : ∀ q, p0 ≤ q → q < p0 + x.length → sz.getD q 0 = nI (min 201 (grw bs (l.drop q)).length)) {base : List Int32} {pl0 : List Int32}
    (hq : ∀ out pl gw, pl.length = 40 → gwR out gw → (∃ r, out = base ++ r) → out.length ≤ base.length + 200 * x.length → bdI bs l out sz pl p0 (p0 + x.length) → (∀ q, q < p0 ∨ p0 + x.length ≤ q → pl.getD q 0 = pl0.getD q 0) → Q none (GrW L S N D C sd tt w p o t kn sn sz pl gw (nI out.length))) (hbase : base.length + 200 * x.length ≤ 8000) :
    ∀ (k : Nat), k ≤ x.length → ∀ (out pl gw : List Int32) (l4 l5 l6 : Option Value), pl.length = 40 → gwR out gw → (∃ r, out = base ++ r) → out.length + 200 * k ≤ base.length + 200 * x.length → bdI bs l out sz pl (p0 + k) (p0 + x.length) → (∀ q, q < p0 ∨ p0 + x.length ≤ q → pl.getD q 0 = pl0.getD q 0) → X B 42 23 [some (.ref 0), some (.int (nI p0)), some (.int (nI (p0 + x.length))), some (.int (nI (p0 + k) + -1)), l4, l5, l6] [] (GrW L S N D C sd tt w p o t kn sn sz pl gw (nI out.length)) Q := by
  obtain ⟨⟨g1, g2, g3, g4, g5, g6⟩, ⟨g7, g8⟩, g9⟩ := id hG
  intro k
  induction k with
  | zero =>
    intro _ out pl gw l4 l5 l6 hpl hR hr hlen hbd hout
    repeat refine hX ?_
    refine And.intro (fun _ => ?_) (fun h => absurd ?_ h)
    · repeat refine hX ?_
      exact hq out pl gw hpl hR hr (by omega) hbd hout
    · cases p0 with
      | zero => decide
      | succ m => rw [Nat.add_zero, nI_predA]; exact (nlt (by omega) (by omega)).mpr (by omega)
  | succ k ih =>
    intro hk out pl gw l4 l5 l6 hpl hR hr hlen hbd hout
    have hjl : p0 + k < l.length := by omega
    rw [show p0 + (k + 1) = p0 + k + 1 by omega, nI_predA]
    obtain ⟨n1, n2⟩ := g9 (p0 + k) hjl
    obtain ⟨i1, i2⟩ := inside h1 h2 (j := p0 + k) (by omega) (by omega)
    have hcx : l.getD (p0 + k) 0 ∈ x := by
      have e := drop_split (k := k) h1 (by omega)
      have e2 := drop_cons hjl
      rw [e] at e2
      have hne : k < x.length := by omega
      rw [List.drop_eq_getElem_cons hne, List.cons_append, List.cons.injEq] at e2
      rw [← e2.1]
      exact List.getElem_mem hne
    have hvc := hv _ hcx
    have hkd := kN_ok (g5 _ (getD_mem (d := 0) hjl))
    have hszk := hin (p0 + k) (by omega) (by omega)
    have hst := GC_at hG hf hjl hvc (a1 := grw bs (l.drop (p0 + k + 1))) (a2 := grw bs (l.drop (p0 + k + 1 + tlen (l.drop (p0 + k + 1)) 1))) (fun _ => rfl) (fun _ => rfl)
    have hpl2 : (pl.set (p0 + k) (nI out.length)).length = 40 := by rw [List.length_set]; exact hpl
    repeat refine hX ?_
    refine And.intro (fun h => absurd ((nlt (by omega) (by omega)).mp h) (by omega)) (fun _ => ?_)
    repeat refine hX ?_
    refine And.intro (fun h => absurd h (nneg (by omega))) (fun _ => ?_)
    repeat refine hX ?_
    refine And.intro (vp_in_nI (by rw [hz.1]; omega) (by rw [hz.1]; omega)) ?_
    rw [nI_clamp (by omega), hszk]
    repeat refine hX ?_
    -- a row, with its BODY or with none
    have row : ∀ (b : List Nat), bOk b → (∀ q, q = p0 + k → (grw bs (l.drop q)).length ≤ 200 → sub b (grw bs (l.drop (p0 + k + 1))) (grw bs (l.drop (p0 + k + 1 + tlen (l.drop (p0 + k + 1)) 1))) = grw bs (l.drop q)) → (sub b (grw bs (l.drop (p0 + k + 1))) (grw bs (l.drop (p0 + k + 1 + tlen (l.drop (p0 + k + 1)) 1)))).length ≤ 200 → (1 ≤ cf 1 b → 1 ≤ arN (l.getD (p0 + k) 0) ∧ (grw bs (l.drop (p0 + k + 1))).length ≤ 200) → (1 ≤ cf 2 b → 2 ≤ arN (l.getD (p0 + k) 0) ∧ (grw bs (l.drop (p0 + k + 1 + tlen (l.drop (p0 + k + 1)) 1))).length ≤ 200) → X B 42 61 [some (.ref 0), some (.int (nI p0)), some (.int (nI (p0 + x.length))), some (.int (nI (p0 + k))), l4, l5, l6] [.int (nI (wC b))] (GrW L S N D C sd tt w p o t kn sn sz pl gw (nI out.length)) Q := by
      intro b hb hstr hblen hc1 hc2
      repeat refine hX ?_
      refine And.intro (vp_in_nI (by rw [hpl]; omega) (by rw [hpl]; omega)) ?_
      rw [nI_clamp (by omega)]
      iterate 2 refine hX ?_
      have hbd2 : bdI bs l out sz (pl.set (p0 + k) (nI out.length)) (p0 + k + 1) (p0 + x.length) := by
        intro q hq1 hq2 hq3
        obtain ⟨a, e1, e2, e3⟩ := hbd q (by omega) hq2 hq3
        exact ⟨a, by rw [getD_set_ne (by omega)]; exact e1, e2, e3⟩
      have hsz1 : 1 ≤ cf 1 b → ∃ a, (pl.set (p0 + k) (nI out.length)).getD (p0 + k + 1) 0 = nI a ∧ a + (grw bs (l.drop (p0 + k + 1))).length ≤ out.length ∧ (out.drop a).take (grw bs (l.drop (p0 + k + 1))).length = grw bs (l.drop (p0 + k + 1)) := fun h => hbd2 _ (by omega) (i1 (hc1 h).1) (hc1 h).2
      have hsz2 : 1 ≤ cf 2 b → ∃ a, (pl.set (p0 + k) (nI out.length)).getD (p0 + k + 1 + tlen (l.drop (p0 + k + 1)) 1) 0 = nI a ∧ a + (grw bs (l.drop (p0 + k + 1 + tlen (l.drop (p0 + k + 1)) 1))).length ≤ out.length ∧ (out.drop a).take (grw bs (l.drop (p0 + k + 1 + tlen (l.drop (p0 + k + 1)) 1))).length = grw bs (l.drop (p0 + k + 1 + tlen (l.drop (p0 + k + 1)) 1)) := fun h => hbd2 _ (by omega) (i2 (hc2 h).1) (hc2 h).2
      obtain ⟨p1, hp1⟩ : ∃ p1, 1 ≤ cf 1 b → (pl.set (p0 + k) (nI out.length)).getD (p0 + k + 1) 0 = nI p1 ∧ p1 + (grw bs (l.drop (p0 + k + 1))).length ≤ out.length ∧ (out.drop p1).take (grw bs (l.drop (p0 + k + 1))).length = grw bs (l.drop (p0 + k + 1)) := by
        by_cases h : 1 ≤ cf 1 b
        · obtain ⟨a, ha⟩ := hsz1 h; exact ⟨a, fun _ => ha⟩
        · exact ⟨0, fun q => absurd q h⟩
      obtain ⟨p2, hp2⟩ : ∃ p2, 1 ≤ cf 2 b → (pl.set (p0 + k) (nI out.length)).getD (p0 + k + 1 + tlen (l.drop (p0 + k + 1)) 1) 0 = nI p2 ∧ p2 + (grw bs (l.drop (p0 + k + 1 + tlen (l.drop (p0 + k + 1)) 1))).length ≤ out.length ∧ (out.drop p2).take (grw bs (l.drop (p0 + k + 1 + tlen (l.drop (p0 + k + 1)) 1))).length = grw bs (l.drop (p0 + k + 1 + tlen (l.drop (p0 + k + 1)) 1)) := by
        by_cases h : 1 ≤ cf 2 b
        · obtain ⟨a, ha⟩ := hsz2 h; exact ⟨a, fun _ => ha⟩
        · exact ⟨0, fun q => absurd q h⟩
      have h0 := t_build_row (X := X) (B := B) (Q := Q) (L := L) (S := S) (N := N) (D := D) (C := C) (sd := sd) (tt := tt) (w := w) (p := p) (o := o) (t := t) (kn := kn) hX (by omega) hb (r0 := nI p0) (e0 := nI (p0 + x.length)) (q := p0 + k) (q2 := sec l (p0 + k)) (by omega) g8 n2 hpl2 hz.1 (a1 := grw bs (l.drop (p0 + k + 1))) (a2 := grw bs (l.drop (p0 + k + 1 + tlen (l.drop (p0 + k + 1)) 1))) p1 p2 out (fun h => ⟨by have := i1 (hc1 h).1; omega, (hp1 h).1, by rw [hin _ (by omega) (i1 (hc1 h).1), Nat.min_eq_right (by have := (hc1 h).2; omega)], (hp1 h).2⟩) (fun h => by
          have ha2 : arN (l.getD (p0 + k) 0) = 2 := by have := (hc2 h).1; have := arN_le (l.getD (p0 + k) 0); omega
          rw [sec_2 ha2]
          exact ⟨by have := i2 (hc2 h).1; omega, (hp2 h).1, by rw [hin _ (by omega) (i2 (hc2 h).1), Nat.min_eq_right (by have := (hc2 h).2; omega)], (hp2 h).2⟩) (fun gw' l5' l6' hR' => ?_) 6 0 rfl b [] gw l6 rfl (fun c => Nat.le_refl _) (by simp) (by rw [List.length_append]; omega) (by rw [List.append_nil]; exact hR)
      · rw [List.append_nil] at h0
        exact h0
      · obtain ⟨r, rfl⟩ := hr
        iterate 2 refine hX ?_
        refine ih (by omega) _ _ gw' _ _ _ hpl2 hR' ⟨r ++ sub b _ _, by rw [List.append_assoc]⟩ (by rw [List.length_append]; omega) (fun q hq1 hq2 hq3 => ?_) (fun q hq => by rw [getD_set_ne (by omega)]; exact hout q hq)
        by_cases e : p0 + k = q
        · subst e
          refine ⟨(base ++ r).length, getD_set_eq (by rw [hpl]; omega), ?_, ?_⟩
          · rw [hstr _ rfl hq3]; simp only [List.length_append]; omega
          · rw [List.drop_left, hstr _ rfl hq3, List.take_length]
        · obtain ⟨a, e1, e2, e3⟩ := hbd2 q (by omega) hq2 hq3
          have := seg_app (r := sub b (grw bs (l.drop (p0 + k + 1))) (grw bs (l.drop (p0 + k + 1 + tlen (l.drop (p0 + k + 1)) 1)))) e2 e3
          exact ⟨a, e1, this.1, this.2⟩
    by_cases hs : (grw bs (l.drop (p0 + k))).length ≤ 200
    · rw [Nat.min_eq_right (by omega)]
      refine And.intro (fun h => absurd ((nlt (a := 200) (by omega) (by omega)).mp h) (by omega)) (fun _ => ?_)
      repeat refine hX ?_
      refine And.intro (vp_in_nI (by omega) (by omega)) ?_
      rw [nI_clamp (by omega), n1]
      refine hX (And.intro trivial (cP [7, 8, 9, 10, 11] [.ref 0, .int (nI (kN (l.getD (p0 + k) 0)))] (ChW w p o t) (some (.int (nI (wC (bs.getD (kN (l.getD (p0 + k) 0)) []))))) [.int (nI (wC (bs.getD (kN (l.getD (p0 + k) 0)) [])))] (by omega) rfl rfl rfl rfl (fun Q' hQ' => t_cword hX g6 hkd.2 hQ') ?_))
      refine hX ?_
      have hl2 := hs
      rw [hst, sub_len] at hl2
      refine row _ hvc.1 (fun q hq _ => by rw [hq]; exact hst.symm) (by rw [← hst]; exact hs) (fun h => ⟨(cf_pos_bv hvc).1 h, ?_⟩) (fun h => ⟨(cf_pos_bv hvc).2 h, ?_⟩)
      · have := mul_ge (a := (grw bs (l.drop (p0 + k + 1))).length) h; omega
      · have := mul_ge (a := (grw bs (l.drop (p0 + k + 1 + tlen (l.drop (p0 + k + 1)) 1))).length) h; omega
    · rw [Nat.min_eq_left (by omega)]
      refine And.intro (fun _ => ?_) (fun h => absurd (by decide) h)
      refine hX ?_
      exact row [] ⟨by simp, fun c hc => by simp at hc⟩ (fun q hq h => by rw [hq] at h; exact absurd h hs) (by simp [sub]) (fun h => by simp [cf] at h) (fun h => by simp [cf] at h)
theorem t_build (hX : Cl sc X) (hB : 3 ≤ B.1) {l : List Int32} {bs : List (List Nat)} (hG : GC l L N D C bs w p o t kn sn) {nn : Nat} (hf : okF l nn = true) {x xr : List Int32} {p0 : Nat} (h1 : l.drop p0 = x ++ xr) (h2 : okF x 1 = true) (hv : ∀ c ∈ x, bv (arN c) (bs.getD (kN c) [])) (hz : szI sz) (hin : ∀ q, p0 ≤ q → q < p0 + x.length → sz.getD q 0 = nI (min 201 (grw bs (l.drop q)).length)) {base pl0 gw : List Int32} (hpl : pl0.length = 40) (hR : gwR base gw) (hbase : base.length + 200 * x.length ≤ 8000)
    (hq : ∀ out pl gw, pl.length = 40 → gwR out gw → (∃ r, out = base ++ r) → out.length ≤ base.length + 200 * x.length → bdI bs l out sz pl p0 (p0 + x.length) → (∀ q, q < p0 ∨ p0 + x.length ≤ q → pl.getD q 0 = pl0.getD q 0) → Q none (GrW L S N D C sd tt w p o t kn sn sz pl gw (nI out.length))) : X B 42 0 [some (.ref 0), some (.int (nI p0)), none, none, none, none, none] [] (GrW L S N D C sd tt w p o t kn sn sz pl0 gw (nI base.length)) Q := by
  obtain ⟨⟨g1, g2, g3, g4, g5, g6⟩, ⟨g7, g8⟩, g9⟩ := id hG
  have hp : p0 < l.length ∧ p0 + x.length ≤ l.length := by
    have := congrArg List.length h1
    have := okF_pos h2 (by omega)
    rw [List.length_drop, List.length_append] at *
    omega
  repeat refine hX ?_
  refine And.intro trivial (cP [1, 2, 3, 4, 5, 6] [.ref 0, .int (nI p0)] (EqW L S N D C sd tt) (some (.int (N.getD p0 0))) [.int (N.getD p0 0), .int (nI p0)] (by omega) rfl rfl rfl rfl (fun Q' hQ' => t_nodesAt hX (by omega) g4.1.1 hQ') ?_)
  rw [(g4.2 p0 hp.1).1, h1, okF_tlen x xr 1 h2]
  repeat refine hX ?_
  rw [nadd, hz.1]
  refine And.intro ⟨by omega, Nat.le_of_ble_eq_true rfl⟩ ?_
  rw [nmin (a := p0 + x.length) (b := 40) (by omega) (by omega), Nat.min_eq_left (by omega)]
  iterate 5 refine hX ?_
  rw [Int32.sub_eq_add_neg]
  exact t_build_loop hX hB hG hf h1 h2 hv hp.2 hz hin hq hbase x.length (Nat.le_refl _) base pl0 gw none none none hpl hR ⟨[], by simp⟩ (by omega) (fun q a b _ => by omega) (fun q _ => rfl)
abbrev GrA : List Nat := [0, 1, 2, 3, 4, 5, 6, 7, 8, 9, 10, 11, 12, 13, 14, 15, 16]
theorem t_fits (hX : Cl sc X) (hB : 3 ≤ B.1) {l : List Int32} {bs : List (List Nat)} (hG : GC l L N D C bs w p o t kn sn) {nn : Nat} (hf : okF l nn = true) {x xr : List Int32} {p0 : Nat} (h1 : l.drop p0 = x ++ xr) (h2 : okF x 1 = true) (hv : ∀ c ∈ x, bv (arN c) (bs.getD (kN c) [])) (hz : szI sz) {pl gw : List Int32} {us : Int32} (hq : ∀ sz, szI sz → Q (some (.int (if (grw bs (l.drop p0)).length ≤ 200 then 1 else 0))) (GrW L S N D C sd tt w p o t kn sn sz pl gw us)) : X B 37 0 [some (.ref 0), some (.int (nI p0))] [] (GrW L S N D C sd tt w p o t kn sn sz pl gw us) Q := by
  have hx := okF_pos h2 (by omega)
  have hp : p0 < 40 := by
    have := congrArg List.length h1
    have := hG.1.1
    rw [List.length_drop, List.length_append] at *
    omega
  repeat refine hX ?_
  refine And.intro trivial (cMw [.ref 0, .int (nI p0)] (fun s : List Int32 => szI s ∧ s.getD p0 0 = nI (min 201 (grw bs (l.drop p0)).length)) (fun _ => none) (fun s => GrW L S N D C sd tt w p o t kn sn s pl gw us) (by omega) rfl rfl (fun _ => rfl) (fun _ => rfl) (fun _ => rfl) (fun Q' hQ' => t_gmeasure hX (by show 2 ≤ B.1 - 1; omega) hG hf h1 h2 hv hz (fun s a b c => hQ' s ⟨a, b p0 (by omega) (by omega)⟩)) (fun s hs => ?_))
  repeat refine hX ?_
  refine And.intro trivial (cPw [.ref 0, .int (nI p0)] (some (.int (s.getD p0 0))) (by omega) rfl rfl rfl (fun Q' hQ' => t_sizeAt hX (by omega) hs.1.1 hQ') ?_)
  rw [hs.2]
  have hq2 := hq s hs.1
  repeat refine hX ?_
  refine And.intro (fun h => ?_) (fun h => ?_)
  · rw [if_neg (by have := (nlt (a := 200) (by omega) (by omega)).mp h; omega)] at hq2
    repeat refine hX ?_
    exact And.intro (Or.inl rfl) hq2
  · rw [if_pos (by have : ¬ 200 < min 201 (grw bs (l.drop p0)).length := fun q => h ((nlt (a := 200) (by omega) (by omega)).mpr q); omega)] at hq2
    repeat refine hX ?_
    exact And.intro (Or.inr rfl) hq2
theorem t_grow (hX : Cl sc X) (hB : 4 ≤ B.1) {l : List Int32} {bs : List (List Nat)} (hG : GC l L N D C bs w p o t kn sn) {nn : Nat} (hf : okF l nn = true) {x xr : List Int32} {p0 : Nat} (h1 : l.drop p0 = x ++ xr) (h2 : okF x 1 = true) (hv : ∀ c ∈ x, bv (arN c) (bs.getD (kN c) [])) (hz : szI sz) {pl gw : List Int32} {us : Int32} (hpl : pl.length = 40) (hgw : gw.length = 8000) (h200 : (grw bs (l.drop p0)).length ≤ 200) (hq : ∀ sz pl gw out a, szI sz → pl.length = 40 → gwR out gw → sz.getD p0 0 = nI (grw bs (l.drop p0)).length → pl.getD p0 0 = nI a → a + (grw bs (l.drop p0)).length ≤ out.length → (out.drop a).take (grw bs (l.drop p0)).length = grw bs (l.drop p0) → Q none (GrW L S N D C sd tt w p o t kn sn sz pl gw (nI out.length))) : X B 39 0 [some (.ref 0), some (.int (nI p0))] [] (GrW L S N D C sd tt w p o t kn sn sz pl gw us) Q := by
  have hx := okF_pos h2 (by omega)
  have hp : p0 < 40 ∧ x.length ≤ 40 := by
    have := congrArg List.length h1
    have := hG.1.1
    rw [List.length_drop, List.length_append] at *
    omega
  repeat refine hX ?_
  refine And.intro trivial (cMw [.ref 0, .int (nI p0)] (fun s : List Int32 => szI s ∧ ∀ q, p0 ≤ q → q < p0 + x.length → s.getD q 0 = nI (min 201 (grw bs (l.drop q)).length)) (fun _ => none) (fun s => GrW L S N D C sd tt w p o t kn sn s pl gw 0) (by omega) rfl rfl (fun _ => rfl) (fun _ => rfl) (fun _ => rfl) (fun Q' hQ' => t_gmeasure hX (by show 2 ≤ B.1 - 1; omega) hG hf h1 h2 hv hz (fun s a b c => hQ' s ⟨a, b⟩)) (fun s hs => ?_))
  repeat refine hX ?_
  refine And.intro trivial (cMw [.ref 0, .int (nI p0)] (fun u : List Int32 × List Int32 × List Int32 => u.2.1.length = 40 ∧ gwR u.1 u.2.2 ∧ bdI bs l u.1 s u.2.1 p0 (p0 + x.length)) (fun _ => none) (fun u => GrW L S N D C sd tt w p o t kn sn s u.2.1 u.2.2 (nI u.1.length)) (by omega) rfl rfl (fun _ => rfl) (fun _ => rfl) (fun _ => rfl) (fun Q' hQ' => t_build (base := []) hX (by show 3 ≤ B.1 - 1; omega) hG hf h1 h2 hv hs.1 hs.2 hpl ⟨hgw, by simp, by simp⟩ (by simp; omega) (fun out pl gw a b _ _ e _ => hQ' (out, pl, gw) ⟨a, b, e⟩)) (fun u hu => ?_))
  repeat refine hX ?_
  obtain ⟨a, e1, e2, e3⟩ := hu.2.2 p0 (by omega) (by omega) h200
  exact hq s u.2.1 u.2.2 u.1 a hs.1 hu.1 hu.2.1 (by rw [hs.2 p0 (by omega) (by omega), Nat.min_eq_right (by omega)]) e1 e2 e3
end GA
