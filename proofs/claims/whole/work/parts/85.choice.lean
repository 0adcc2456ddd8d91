/-! Writing of terms and bodies; Choice. -/
def WtW (by' pl : List Int32) (ln dp : Int32) (L S N D C : List Int32) (sd tt : Int32) : pH := [.inr (9, [.ref 1, .ref 2, .int ln, .int dp]), .inl by', .inl pl, .inr (2, [.ref 4, .ref 5, .ref 6, .ref 7, .ref 8, .int sd, .int tt]), .inl L, .inl S, .inl N, .inl D, .inl C]
theorem wL_2 (s : List Nat) (c : Int32) (h : ∀ p ∈ s, 1 ≤ p ∧ p ≤ 2) : ∀ p ∈ (wL s c).2, 1 ≤ p ∧ p ≤ 2 := by
  have hE : ∀ (s : List Nat), (∀ p ∈ s, 1 ≤ p ∧ p ≤ 2) → ∀ p ∈ (wEnd s).2, 1 ≤ p ∧ p ≤ 2 := by
    intro s
    induction s with
    | nil => intro _ p hp; simp [wEnd] at hp
    | cons q s ih =>
      intro h p hp
      have hq := h q List.mem_cons_self
      rw [wEnd] at hp
      split at hp
      · rcases List.mem_cons.mp hp with rfl | hp
        · omega
        · exact h p (List.mem_cons_of_mem _ hp)
      · exact ih (fun x hx => h x (List.mem_cons_of_mem _ hx)) p hp
  unfold wL
  split
  · exact hE s h
  · rename_i ha
    intro p hp
    rcases List.mem_cons.mp hp with rfl | hp
    · exact arN_12 ha
    · exact h p hp
section WT
variable {sc : List Int32} {X : pX} {B : pB} {Q : pQ} {L S N D C : List Int32} {sd tt : Int32}
theorem t_putTerm_loop (hX : Cl sc X) (hB : 3 ≤ B.1) {l : List Int32} (hl : l.length ≤ 40) (hL : L.length = 40) (hLl : L.take l.length = l) {r0 : Int32} {e : Nat} (he : e ≤ 40) : ∀ (y xr : List Int32) (p : Nat) (s : List Nat) (o by' pl : List Int32) (Q : pQ), l.drop p = y ++ xr → p + y.length = e → (∀ p ∈ s, 1 ≤ p ∧ p ≤ 2) → wrR o by' → stR s pl → s.length + y.length ≤ 40 → o.length + (wS y s).1.length ≤ 160 → (∀ by2 pl2, wrR (o ++ (wS y s).1) by2 → stR (wS y s).2 pl2 → Q none (WtW by2 pl2 (nI (o ++ (wS y s).1).length) (nI (wS y s).2.length) L S N D C sd tt)) → X B 85 11 [some (.ref 0), some (.ref 3), some (.int r0), some (.int (nI e)), some (.int (nI p))] [] (WtW by' pl (nI o.length) (nI s.length) L S N D C sd tt) Q := by
  intro y
  induction y with
  | nil =>
    intro xr p s o by' pl Q h1 h2 hs hR hst hs40 hlen hq
    have : p = e := by simpa using h2
    subst this
    repeat refine hX ?_
    refine And.intro (fun _ => ?_) (fun h => absurd (Int32.le_refl _) h)
    repeat refine hX ?_
    simp only [wS, List.append_nil] at hq
    exact hq by' pl hR hst
  | cons c y ih =>
    intro xr p s o by' pl Q h1 h2 hs hR hst hs40 hlen hq
    obtain ⟨k1, k2, k3⟩ := drop_head h1
    rw [List.length_cons] at h2 hs40
    rw [wS, List.length_append] at hlen
    simp only [wS] at hq
    obtain ⟨-, -, w3⟩ := wL_sum s c (fun p hp => (hs p hp).1)
    repeat refine hX ?_
    refine And.intro (fun h => absurd ((nle (by omega) (by omega)).mp h) (by omega)) (fun _ => ?_)
    repeat refine hX ?_
    refine And.intro trivial (cP [3, 4, 5, 6, 7, 8] [.ref 0, .int (nI p)] (EqW L S N D C sd tt) (some (.int (L.getD p 0))) [.int (L.getD p 0), .ref 0] (by omega) rfl rfl rfl rfl (fun Q' hQ' => t_letterAt hX (by omega) hL hQ') ?_)
    rw [← getD_take (n := l.length) k1, hLl, k2]
    refine hX (And.intro trivial (cM [0, 1, 2] [.ref 0, .int c] (WrW by' pl (nI o.length) (nI s.length)) (fun w : List Int32 × List Int32 => wrR (o ++ (wL s c).1) w.1 ∧ stR (wL s c).2 w.2) (fun _ => none) (fun w => WrW w.1 w.2 (nI (o ++ (wL s c).1).length) (nI (wL s c).2.length)) (fun w => WtW w.1 w.2 (nI (o ++ (wL s c).1).length) (nI (wL s c).2.length) L S N D C sd tt) (fun _ => []) (by omega) rfl rfl rfl (fun _ => rfl) (fun _ => rfl) (fun _ => rfl) (fun Q' hQ' => t_putLetter hX (by show 2 ≤ B.1 - 1; omega) hs hR hst (by omega) (by omega) (fun by2 pl2 h1 h2 => hQ' (by2, pl2) ⟨h1, h2⟩)) (fun w hw => ?_)))
    iterate 2 refine hX ?_
    rw [show nI p + 1 = nI (p + 1) from (nI_succ p).symm]
    exact ih xr (p + 1) (wL s c).2 (o ++ (wL s c).1) w.1 w.2 Q k3 (by omega) (wL_2 s c hs) hw.1 hw.2 (by omega) (by rw [List.length_append]; omega) (fun by2 pl2 h1 h2 => by
      rw [List.append_assoc] at h1 ⊢
      exact hq by2 pl2 h1 h2)
theorem t_putTerm (hX : Cl sc X) (hB : 3 ≤ B.1) {l : List Int32} (hl : l.length ≤ 40) (hL : L.length = 40) (hLl : L.take l.length = l) (hm : mOK l N D C) {x xr : List Int32} {p : Nat} {s : List Nat} {o by' pl : List Int32} (h1 : l.drop p = x ++ xr) (h2 : okF x 1 = true) (hs : ∀ p ∈ s, 1 ≤ p ∧ p ≤ 2) (hR : wrR o by') (hst : stR s pl) (hs40 : s.length + x.length ≤ 40) (hlen : o.length + (wS x s).1.length ≤ 160) (hq : ∀ by2 pl2, wrR (o ++ (wS x s).1) by2 → stR (wS x s).2 pl2 → Q none (WtW by2 pl2 (nI (o ++ (wS x s).1).length) (nI (wS x s).2.length) L S N D C sd tt)) : X B 85 0 [some (.ref 0), some (.ref 3), some (.int (nI p)), none, none] [] (WtW by' pl (nI o.length) (nI s.length) L S N D C sd tt) Q := by
  have hp : p < l.length ∧ p + x.length ≤ 40 := by
    have := congrArg List.length h1
    have := okF_pos h2 (by omega)
    rw [List.length_drop, List.length_append] at *
    omega
  repeat refine hX ?_
  refine And.intro trivial (cP [3, 4, 5, 6, 7, 8] [.ref 0, .int (nI p)] (EqW L S N D C sd tt) (some (.int (N.getD p 0))) [.int (N.getD p 0), .int (nI p)] (by omega) rfl rfl rfl rfl (fun Q' hQ' => t_nodesAt hX (by omega) hm.1.1 hQ') ?_)
  rw [(hm.2 p hp.1).1, h1, okF_tlen x xr 1 h2]
  iterate 4 refine hX ?_
  rw [nadd]
  exact t_putTerm_loop hX hB hl hL hLl hp.2 x xr p s o by' pl Q h1 rfl hs hR hst hs40 hlen hq
theorem t_putBody_loop (hX : Cl sc X) (hB : 3 ≤ B.1) {b : List Nat} (hb : bOk b) : ∀ (y : List Nat) (k : Nat) (s : List Nat) (o by' pl : List Int32) (Q : pQ), b.drop k = y → (∀ p ∈ s, 1 ≤ p ∧ p ≤ 2) → wrR o by' → stR s pl → s.length + y.length ≤ 40 → o.length + (wS (y.map ltN) s).1.length ≤ 160 → (∀ by2 pl2, wrR (o ++ (wS (y.map ltN) s).1) by2 → stR (wS (y.map ltN) s).2 pl2 → Q none (WrW by2 pl2 (nI (o ++ (wS (y.map ltN) s).1).length) (nI (wS (y.map ltN) s).2.length))) → k ≤ b.length → X B 86 2 [some (.ref 0), some (.int (nI (wC b))), some (.int (nI k))] [] (WrW by' pl (nI o.length) (nI s.length)) Q := by
  have hb6 := hb.1
  intro y
  induction y with
  | nil =>
    intro k s o by' pl Q h1 hs hR hst hs40 hlen hq hk
    have : k = b.length := by
      have := congrArg List.length h1
      rw [List.length_drop] at this
      simp at this
      omega
    subst this
    repeat refine hX ?_
    refine (cP [] [.int (nI (wC b))] [] (some (.int (nI b.length))) [.int (nI b.length), .int (nI b.length)] (by omega) rfl rfl rfl rfl (fun Q' hQ' => t_lettersIn hX (by show 1 ≤ B.1 - 1; omega) hb hQ') ?_)
    refine hX (And.intro (fun _ => ?_) (fun h => absurd (Int32.le_refl _) h))
    repeat refine hX ?_
    simp only [List.map_nil, wS, List.append_nil] at hq
    exact hq by' pl hR hst
  | cons c y ih =>
    intro k s o by' pl Q h1 hs hR hst hs40 hlen hq hk
    have hkb : k < b.length := by
      have := congrArg List.length h1
      rw [List.length_drop, List.length_cons] at this
      omega
    have hc : b.getD k 0 = c ∧ b.drop (k + 1) = y := by
      rw [List.drop_eq_getElem_cons hkb, List.cons.injEq] at h1
      rw [List.getD_eq_getElem?_getD, List.getElem?_eq_getElem hkb]
      exact ⟨h1.1, h1.2⟩
    rw [List.length_cons] at hs40
    rw [List.map_cons, wS, List.length_append] at hlen
    simp only [List.map_cons, wS] at hq
    obtain ⟨-, -, w3⟩ := wL_sum s (ltN c) (fun p hp => (hs p hp).1)
    repeat refine hX ?_
    refine (cP [] [.int (nI (wC b))] [] (some (.int (nI b.length))) [.int (nI b.length), .int (nI k)] (by omega) rfl rfl rfl rfl (fun Q' hQ' => t_lettersIn hX (by show 1 ≤ B.1 - 1; omega) hb hQ') ?_)
    refine hX (And.intro (fun h => absurd ((nle (by omega) (by omega)).mp h) (by omega)) (fun _ => ?_))
    repeat refine hX ?_
    refine (cP [] [.int (nI (wC b)), .int (nI k)] [] (some (.int (ltN (b.getD k 0)))) [.int (ltN (b.getD k 0)), .ref 0] (by omega) rfl rfl rfl rfl (fun Q' hQ' => t_letterIn hX hb (by omega) hQ') ?_)
    rw [hc.1]
    refine hX (And.intro trivial (cM [0, 1, 2] [.ref 0, .int (ltN c)] (WrW by' pl (nI o.length) (nI s.length)) (fun w : List Int32 × List Int32 => wrR (o ++ (wL s (ltN c)).1) w.1 ∧ stR (wL s (ltN c)).2 w.2) (fun _ => none) (fun w => WrW w.1 w.2 (nI (o ++ (wL s (ltN c)).1).length) (nI (wL s (ltN c)).2.length)) (fun w => WrW w.1 w.2 (nI (o ++ (wL s (ltN c)).1).length) (nI (wL s (ltN c)).2.length)) (fun _ => []) (by omega) rfl rfl rfl (fun _ => rfl) (fun _ => rfl) (fun _ => rfl) (fun Q' hQ' => t_putLetter hX (by show 2 ≤ B.1 - 1; omega) hs hR hst (by omega) (by omega) (fun by2 pl2 h1 h2 => hQ' (by2, pl2) ⟨h1, h2⟩)) (fun w hw => ?_)))
    iterate 2 refine hX ?_
    rw [show nI k + 1 = nI (k + 1) from (nI_succ k).symm]
    exact ih (k + 1) (wL s (ltN c)).2 (o ++ (wL s (ltN c)).1) w.1 w.2 Q hc.2 (wL_2 s _ hs) hw.1 hw.2 (by omega) (by rw [List.length_append]; omega) (fun by2 pl2 h1 h2 => by
      rw [List.append_assoc] at h1 ⊢
      exact hq by2 pl2 h1 h2) (by omega)
theorem bodyW_len {b : List Nat} (hb : bOk b) : (wS (b.map ltN) []).1.length ≤ 24 := by
  have h := (wS_sum (b.map ltN) [] (fun p hp => by simp at hp)).1
  have h2 : ∀ (l : List Int32), (l.map arN).sum ≤ 2 * l.length := by
    intro l
    induction l with
    | nil => simp
    | cons c l ih => rw [List.map_cons, List.sum_cons, List.length_cons]; have := arN_le c; omega
  have h3 := h2 (b.map ltN)
  rw [List.length_map] at h h3
  simp only [List.sum_nil, Nat.zero_add] at h
  have := hb.1
  omega
/-- a BODY, written from the start -/
theorem t_putBody (hX : Cl sc X) (hB : 3 ≤ B.1) {b : List Nat} (hb : bOk b) {by' pl : List Int32} (hby : by'.length = 160) (hpl : pl.length = 40) (hq : ∀ by2 pl2 dp, wrR (wS (b.map ltN) []).1 by2 → pl2.length = 40 → Q none (WrW by2 pl2 (nI (wS (b.map ltN) []).1.length) dp)) : X B 86 0 [some (.ref 0), some (.int (nI (wC b))), none] [] (WrW by' pl 0 0) Q := by
  iterate 2 refine hX ?_
  exact t_putBody_loop hX hB hb b 0 [] [] by' pl Q rfl (fun p hp => by simp at hp) ⟨hby, by simp, by simp⟩ (stR_nil hpl) (by have := hb.1; simp; omega) (by have := bodyW_len hb; simp; omega) (fun by2 pl2 h1 h2 => hq by2 pl2 _ h1 h2.1) (by omega)
theorem t_Writing (hX : Cl sc X) (hB : 1 ≤ B.1 ∧ 2 ≤ B.2.1 ∧ 200 ≤ B.2.2) (hq : Q none (WrW (List.replicate 160 0) (List.replicate 40 0) 0 0)) : X B 81 0 [some (.ref 0)] [] [.inr (9, [.null, .null, .int 0, .int 0])] Q := by
  obtain ⟨b1, b2, b3⟩ := hB
  repeat refine hX ?_
  refine And.intro ⟨b1, Nat.le_of_ble_eq_true rfl⟩ ?_
  repeat refine hX ?_
  refine And.intro (by decide) (And.intro ⟨by decide, by omega, by show 160 ≤ _; omega⟩ ?_)
  repeat refine hX ?_
  refine And.intro (by decide) (And.intro ⟨by decide, by show 1 ≤ B.2.1 - 1; omega, by show 40 ≤ B.2.2 - 160; omega⟩ ?_)
  repeat refine hX ?_
  exact hq
end WT
