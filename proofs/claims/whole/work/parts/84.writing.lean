/-! Writing. -/
/-- what stands behind a term that ends -/
def wEnd : List Nat → List Int32 × List Nat
  | [] => ([], [])
  | p :: s => if 1 < p then ([44], (p - 1) :: s) else (41 :: (wEnd s).1, (wEnd s).2)
/-- a letter, with what stands behind it up to the next one -/
def wL (s : List Nat) (c : Int32) : List Int32 × List Nat := if arN c = 0 then (c :: (wEnd s).1, (wEnd s).2) else ([c, 40], arN c :: s)
def wS : List Int32 → List Nat → List Int32 × List Nat
  | [], s => ([], s)
  | c :: l, s => ((wL s c).1 ++ (wS l (wL s c).2).1, (wS l (wL s c).2).2)
theorem wEnd_sum : ∀ (s : List Nat), (∀ p ∈ s, 1 ≤ p) → (wEnd s).1.length + (wEnd s).2.sum ≤ s.sum ∧ (∀ p ∈ (wEnd s).2, 1 ≤ p) ∧ (wEnd s).2.length ≤ s.length
  | [], _ => ⟨by simp [wEnd], fun p hp => by simp [wEnd] at hp, by simp [wEnd]⟩
  | p :: s, h => by
    have hp := h p List.mem_cons_self
    obtain ⟨h1, h2, h3⟩ := wEnd_sum s (fun q hq => h q (List.mem_cons_of_mem _ hq))
    rw [wEnd]
    split
    · refine ⟨by simp; omega, fun q hq => ?_, by simp⟩
      rcases List.mem_cons.mp hq with rfl | hq
      · omega
      · exact h q (List.mem_cons_of_mem _ hq)
    · refine ⟨by simp; omega, h2, by simp; omega⟩
theorem wL_sum (s : List Nat) (c : Int32) (h : ∀ p ∈ s, 1 ≤ p) : (wL s c).1.length + (wL s c).2.sum ≤ s.sum + 2 + arN c ∧ (∀ p ∈ (wL s c).2, 1 ≤ p) ∧ (wL s c).2.length ≤ s.length + 1 := by
  obtain ⟨h1, h2, h3⟩ := wEnd_sum s h
  rw [wL]
  split
  · refine ⟨by simp; omega, h2, by simp; omega⟩
  · rename_i ha
    refine ⟨by simp; omega, fun q hq => ?_, by simp⟩
    rcases List.mem_cons.mp hq with rfl | hq
    · omega
    · exact h q hq
theorem wS_sum : ∀ (l : List Int32) (s : List Nat), (∀ p ∈ s, 1 ≤ p) → (wS l s).1.length + (wS l s).2.sum ≤ s.sum + 2 * l.length + (l.map arN).sum ∧ (∀ p ∈ (wS l s).2, 1 ≤ p) ∧ (wS l s).2.length ≤ s.length + l.length
  | [], s, h => ⟨by simp [wS], h, by simp [wS]⟩
  | c :: l, s, h => by
    obtain ⟨h1, h2, h3⟩ := wL_sum s c h
    obtain ⟨h4, h5, h6⟩ := wS_sum l (wL s c).2 h2
    rw [wS]
    refine ⟨?_, h5, ?_⟩
    · rw [List.length_append, List.length_cons, List.map_cons, List.sum_cons]
      simp only
      omega
    · rw [List.length_cons]
      simp only
      omega
theorem okF_sum : ∀ (l : List Int32) (m : Nat), okF l m = true → (l.map arN).sum + m = l.length
  | [], m, h => by rw [okF_nil h]; rfl
  | c :: l, m, h => by
    obtain ⟨k, rfl, h1⟩ := okF_cons h
    have := okF_sum l _ h1
    rw [List.map_cons, List.sum_cons, List.length_cons]
    omega
theorem wS_app : ∀ (l r : List Int32) (s : List Nat), wS (l ++ r) s = ((wS l s).1 ++ (wS r (wS l s).2).1, (wS r (wS l s).2).2)
  | [], r, s => by simp [wS]
  | c :: l, r, s => by
    rw [List.cons_append, wS, wS_app l r, wS]
    simp
/-- a term that is written leaves the stack as it was when it began, but for what stands behind it -/
def WrW (by' pl : List Int32) (ln dp : Int32) : pH := [.inr (9, [.ref 1, .ref 2, .int ln, .int dp]), .inl by', .inl pl]
def wrR (o : List Int32) (by' : List Int32) : Prop := by'.length = 160 ∧ o.length ≤ 160 ∧ by'.take o.length = o
theorem wrR_push {o by' : List Int32} (h : wrR o by') (ho : o.length < 160) (c : Int32) : wrR (o ++ [c]) (by'.set o.length c) := by
  obtain ⟨h1, h2, h3⟩ := h
  refine ⟨by rw [List.length_set]; exact h1, by rw [List.length_append, List.length_singleton]; omega, ?_⟩
  rw [List.length_append, List.length_singleton, take_set (by omega), h3]
theorem wrR_at {o by' : List Int32} (h : wrR o by') {k : Nat} (hk : k < o.length) : by'.getD k 0 = o.getD k 0 := by
  rw [← getD_take (n := o.length) hk, h.2.2]
section WR
variable {sc : List Int32} {X : pX} {B : pB} {Q : pQ} {by' pl : List Int32} {ln dp : Int32}
theorem t_begin (hX : Cl sc X) (hq : Q none (WrW by' pl 0 0)) : X B 82 0 [some (.ref 0)] [] (WrW by' pl ln dp) Q := by
  repeat refine hX ?_
  exact hq
theorem t_wlength (hX : Cl sc X) (hq : Q (some (.int ln)) (WrW by' pl ln dp)) : X B 83 0 [some (.ref 0)] [] (WrW by' pl ln dp) Q := by
  repeat refine hX ?_
  exact hq
theorem t_byteAt (hX : Cl sc X) {o : List Int32} (hR : wrR o by') {k : Nat} (hk : k < 2147483648) (hq : Q (some (.int (if k < o.length then o.getD k 0 else -5))) (WrW by' pl (nI o.length) dp)) : X B 84 0 [some (.ref 0), some (.int (nI k))] [] (WrW by' pl (nI o.length) dp) Q := by
  have ho := hR.2.1
  repeat refine hX ?_
  refine And.intro (fun h => absurd h (nneg hk)) (fun _ => ?_)
  repeat refine hX ?_
  refine And.intro (fun h => ?_) (fun h => ?_)
  · rw [if_neg (by have := (nle (by omega) hk).mp h; omega)] at hq
    repeat refine hX ?_
    exact hq
  · have hk2 : k < o.length := Nat.not_le.mp fun q => h ((nle (by omega) hk).mpr q)
    rw [if_pos hk2] at hq
    repeat refine hX ?_
    refine And.intro (fun h => absurd ((nle (a := 160) (by omega) hk).mp h) (by omega)) (fun _ => ?_)
    repeat refine hX ?_
    refine And.intro (vp_in_nI (by rw [hR.1]; omega) (by rw [hR.1]; omega)) ?_
    repeat refine hX ?_
    show Q (some (.int (by'.getD (nI k).toNatClampNeg 0))) _
    rw [nI_clamp hk, wrR_at hR hk2]
    exact hq
theorem t_put (hX : Cl sc X) {o : List Int32} (hR : wrR o by') (ho : o.length < 160) {c : Int32} (hq : Q none (WrW (by'.set o.length c) pl (nI (o ++ [c]).length) dp)) : X B 87 0 [some (.ref 0), some (.int c)] [] (WrW by' pl (nI o.length) dp) Q := by
  repeat refine hX ?_
  refine And.intro (fun h => absurd ((nle (a := 160) (by omega) (by omega)).mp h) (by omega)) (fun _ => ?_)
  repeat refine hX ?_
  refine And.intro (vp_in_nI (by rw [hR.1]; exact ho) (by rw [hR.1]; omega)) ?_
  rw [nI_clamp (by omega)]
  repeat refine hX ?_
  rw [List.length_append, List.length_singleton, nI_succ] at hq
  exact hq
theorem t_endTerm_loop (hX : Cl sc X) (hB : 1 ≤ B.1) : ∀ (s : List Nat) (o by' pl : List Int32) (Q : pQ), (∀ p ∈ s, 1 ≤ p ∧ p ≤ 2) → wrR o by' → stR s pl → o.length + (wEnd s).1.length ≤ 160 → (∀ by2 pl2, wrR (o ++ (wEnd s).1) by2 → stR (wEnd s).2 pl2 → Q none (WrW by2 pl2 (nI (o ++ (wEnd s).1).length) (nI (wEnd s).2.length))) → X B 89 7 [some (.ref 0), some (.int (nI s.length - 1))] [] (WrW by' pl (nI o.length) (nI s.length)) Q := by
  intro s
  induction s with
  | nil =>
    intro o by' pl Q hs hR hst hlen hq
    repeat refine hX ?_
    refine And.intro (fun _ => ?_) (fun h => absurd (by decide) h)
    repeat refine hX ?_
    simp only [wEnd, List.append_nil] at hq
    exact hq by' pl hR hst
  | cons p s ih =>
    intro o by' pl Q hs hR hst hlen hq
    obtain ⟨t1, t2, t3⟩ := stR_top hst
    have hp := hs p List.mem_cons_self
    rw [List.length_cons, nI_pred]
    repeat refine hX ?_
    refine And.intro (fun h => absurd h (nneg (by omega))) (fun _ => ?_)
    repeat refine hX ?_
    rw [hst.1]
    refine And.intro (fun h => absurd ((nle (by omega) (by omega)).mp h) (by omega)) (fun _ => ?_)
    repeat refine hX ?_
    refine And.intro (vp_in_nI (by rw [hst.1]; omega) (by rw [hst.1]; omega)) ?_
    rw [nI_clamp (by omega), t1]
    repeat refine hX ?_
    refine And.intro (vp_in_nI (by rw [hst.1]; omega) (by rw [hst.1]; omega)) ?_
    rw [nI_clamp (by omega), show nI p - 1 = nI (p - 1) from nsub (b := 1) (by omega)]
    repeat refine hX ?_
    refine And.intro (vp_in_nI (by rw [List.length_set, hst.1]; omega) (by rw [List.length_set, hst.1]; omega)) ?_
    rw [nI_clamp (by omega), getD_set_eq (by rw [hst.1]; omega)]
    rw [wEnd] at hlen hq
    by_cases hp1 : 1 < p
    · rw [if_pos hp1] at hlen hq
      refine hX (And.intro (fun h => absurd ((nle (b := 0) (by omega) (by omega)).mp h) (by omega)) (fun _ => ?_))
      repeat refine hX ?_
      simp only [List.length_singleton] at hlen
      refine And.intro trivial (cD [0, 1, 2] [.ref 0, .int 44] (WrW by' (pl.set s.length (nI (p - 1))) (nI o.length) (nI (s.length + 1))) none (WrW (by'.set o.length 44) (pl.set s.length (nI (p - 1))) (nI (o ++ [44]).length) (nI (s.length + 1))) (WrW (by'.set o.length 44) (pl.set s.length (nI (p - 1))) (nI (o ++ [44]).length) (nI (s.length + 1))) [] hB rfl rfl rfl rfl rfl rfl (fun Q' hQ' => t_put hX hR (by omega) hQ') ?_)
      repeat refine hX ?_
      exact hq _ _ (wrR_push hR (by omega) 44) (stR_push t2 t3)
    · rw [if_neg hp1] at hlen hq
      have hpe : p - 1 = 0 := by omega
      rw [hpe]
      refine hX (And.intro (fun _ => ?_) (fun h => absurd (by decide) h))
      repeat refine hX ?_
      simp only [List.length_cons] at hlen
      refine And.intro trivial (cD [0, 1, 2] [.ref 0, .int 41] (WrW by' (pl.set s.length (nI 0)) (nI o.length) (nI (s.length + 1))) none (WrW (by'.set o.length 41) (pl.set s.length (nI 0)) (nI (o ++ [41]).length) (nI (s.length + 1))) (WrW (by'.set o.length 41) (pl.set s.length (nI 0)) (nI (o ++ [41]).length) (nI (s.length + 1))) [] hB rfl rfl rfl rfl rfl rfl (fun Q' hQ' => t_put hX hR (by omega) hQ') ?_)
      iterate 5 refine hX ?_
      have hst2 : stR s (pl.set s.length (nI 0)) := (stR_top (stR_push (p := 0) t2 t3)).2.1
      rw [← Int32.sub_eq_add_neg]
      exact ih (o ++ [41]) _ _ Q (fun q hq => hs q (List.mem_cons_of_mem _ hq)) (wrR_push hR (by omega) 41) hst2 (by rw [List.length_append, List.length_singleton]; omega) (fun by2 pl2 h1 h2 => by
        have := hq by2 pl2 (by simpa using h1) h2
        simpa using this)
theorem t_endTerm (hX : Cl sc X) (hB : 1 ≤ B.1) {s : List Nat} {o : List Int32} (hs : ∀ p ∈ s, 1 ≤ p ∧ p ≤ 2) (hR : wrR o by') (hst : stR s pl) (hlen : o.length + (wEnd s).1.length ≤ 160) (hq : ∀ by2 pl2, wrR (o ++ (wEnd s).1) by2 → stR (wEnd s).2 pl2 → Q none (WrW by2 pl2 (nI (o ++ (wEnd s).1).length) (nI (wEnd s).2.length))) : X B 89 0 [some (.ref 0), none] [] (WrW by' pl (nI o.length) (nI s.length)) Q := by
  iterate 5 refine hX ?_
  exact t_endTerm_loop hX hB s o by' pl Q hs hR hst hlen hq
theorem t_putLetter (hX : Cl sc X) (hB : 2 ≤ B.1) {s : List Nat} {o : List Int32} {c : Int32} (hs : ∀ p ∈ s, 1 ≤ p ∧ p ≤ 2) (hR : wrR o by') (hst : stR s pl) (hs40 : s.length < 40) (hlen : o.length + (wL s c).1.length ≤ 160) (hq : ∀ by2 pl2, wrR (o ++ (wL s c).1) by2 → stR (wL s c).2 pl2 → Q none (WrW by2 pl2 (nI (o ++ (wL s c).1).length) (nI (wL s c).2.length))) : X B 88 0 [some (.ref 0), some (.int c), none] [] (WrW by' pl (nI o.length) (nI s.length)) Q := by
  have hl1 : 1 ≤ (wL s c).1.length := by unfold wL; split <;> simp
  have hR1 := wrR_push hR (by omega) c
  repeat refine hX ?_
  refine And.intro trivial (cD [0, 1, 2] [.ref 0, .int c] (WrW by' pl (nI o.length) (nI s.length)) none (WrW (by'.set o.length c) pl (nI (o ++ [c]).length) (nI s.length)) (WrW (by'.set o.length c) pl (nI (o ++ [c]).length) (nI s.length)) [] (by omega) rfl rfl rfl rfl rfl rfl (fun Q' hQ' => t_put hX hR (by omega) hQ') ?_)
  generalize by'.set o.length c = by1 at hR1 ⊢
  repeat refine hX ?_
  refine (cP [] [.int c] [] (some (.int (arI c))) [.int (arI c)] (by omega) rfl rfl rfl rfl (fun Q' hQ' => t_parts hX hQ') ?_)
  rw [arI_eq]
  by_cases ha : arN c = 0
  · rw [wL, if_pos ha] at hlen hq
    simp only [List.length_cons] at hlen
    rw [ha]
    repeat refine hX ?_
    refine And.intro (fun _ => ?_) (fun h => absurd (by decide) h)
    repeat refine hX ?_
    refine And.intro trivial (cM [0, 1, 2] [.ref 0] (WrW by1 pl (nI (o ++ [c]).length) (nI s.length)) (fun w : List Int32 × List Int32 => wrR (o ++ [c] ++ (wEnd s).1) w.1 ∧ stR (wEnd s).2 w.2) (fun _ => none) (fun w => WrW w.1 w.2 (nI (o ++ [c] ++ (wEnd s).1).length) (nI (wEnd s).2.length)) (fun w => WrW w.1 w.2 (nI (o ++ [c] ++ (wEnd s).1).length) (nI (wEnd s).2.length)) (fun _ => []) (by omega) rfl rfl rfl (fun _ => rfl) (fun _ => rfl) (fun _ => rfl) (fun Q' hQ' => t_endTerm hX (by show 1 ≤ B.1 - 1; omega) hs hR1 hst (by rw [List.length_append, List.length_singleton]; omega) (fun by2 pl2 h1 h2 => hQ' (by2, pl2) ⟨h1, h2⟩)) (fun w hw => ?_))
    repeat refine hX ?_
    have := hq w.1 w.2 (by simpa using hw.1) hw.2
    rw [show o ++ c :: (wEnd s).1 = o ++ [c] ++ (wEnd s).1 by simp] at this
    exact this
  · rw [wL, if_neg ha] at hlen hq
    simp only [List.length_cons, List.length_nil] at hlen
    have h12 := arN_12 ha
    repeat refine hX ?_
    refine And.intro (fun h => absurd ((nle (b := 0) (by omega) (by omega)).mp h) (by omega)) (fun _ => ?_)
    repeat refine hX ?_
    rw [hst.1]
    refine And.intro (fun h => absurd ((nle (by omega) (by omega)).mp h) (by omega)) (fun _ => ?_)
    repeat refine hX ?_
    refine And.intro (vp_in_nI (by rw [hst.1]; omega) (by rw [hst.1]; omega)) ?_
    rw [nI_clamp (by omega)]
    repeat refine hX ?_
    rw [show nI s.length + 1 = nI (s.length + 1) from (nI_succ _).symm]
    refine And.intro trivial (cD [0, 1, 2] [.ref 0, .int 40] (WrW by1 (pl.set s.length (nI (arN c))) (nI (o ++ [c]).length) (nI (s.length + 1))) none (WrW (by1.set (o ++ [c]).length 40) (pl.set s.length (nI (arN c))) (nI (o ++ [c] ++ [40]).length) (nI (s.length + 1))) (WrW (by1.set (o ++ [c]).length 40) (pl.set s.length (nI (arN c))) (nI (o ++ [c] ++ [40]).length) (nI (s.length + 1))) [] (by omega) rfl rfl rfl rfl rfl rfl (fun Q' hQ' => t_put hX hR1 (by rw [List.length_append, List.length_singleton]; omega) hQ') ?_)
    repeat refine hX ?_
    have := hq _ _ (by have := wrR_push hR1 (by rw [List.length_append, List.length_singleton]; omega) 40; rw [List.append_assoc] at this; exact this) (stR_push hst hs40)
    rw [show o ++ [c, 40] = o ++ [c] ++ [40] by simp, List.length_cons] at this
    exact this
end WR
