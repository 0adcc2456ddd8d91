/-! Choice: a new one. -/
def bs0 : List (List Nat) := [[], [], [], [], [], [], [3], [4], [5, 1], [6, 1, 2]]
section CI
variable {sc : List Int32} {X : pX} {B : pB} {Q : pQ}
theorem t_wordFor (hX : Cl sc X) {h : pH} {k : Nat} (hk : k = 1 ∨ k = 2 ∨ k = 3 ∨ k = 4) (hq : Q (some (.int (nI (wC (bs0.getD (k + 5) []))))) h) : X B 6 0 [some (.retAddr k), none, none] [] h Q := by
  rcases hk with rfl | rfl | rfl | rfl
  · repeat (first | refine hX ?_ | refine And.intro (fun h => absurd h (by decide)) (fun _ => ?_) | refine And.intro (fun _ => ?_) (fun h => absurd (by decide) h) | refine And.intro (by unfold vp_in; decide) ?_)
    exact hq
  · repeat (first | refine hX ?_ | refine And.intro (fun h => absurd h (by decide)) (fun _ => ?_) | refine And.intro (fun _ => ?_) (fun h => absurd (by decide) h) | refine And.intro (by unfold vp_in; decide) ?_)
    exact hq
  · repeat (first | refine hX ?_ | refine And.intro (fun h => absurd h (by decide)) (fun _ => ?_) | refine And.intro (fun _ => ?_) (fun h => absurd (by decide) h) | refine And.intro (by unfold vp_in; decide) ?_)
    exact hq
  · repeat (first | refine hX ?_ | refine And.intro (fun h => absurd h (by decide)) (fun _ => ?_) | refine And.intro (fun _ => ?_) (fun h => absurd (by decide) h) | refine And.intro (by unfold vp_in; decide) ?_)
    exact hq
theorem bOk_bs0 : ∀ k, k < 10 → bOk (bs0.getD k []) := by
  intro k hk
  refine ⟨(show ∀ k, k < 10 → (bs0.getD k []).length ≤ 6 by decide) k hk, ?_⟩
  exact (show ∀ k, k < 10 → ∀ c ∈ bs0.getD k [], 1 ≤ c ∧ c ≤ 6 by decide) k hk
theorem t_Choice (hX : Cl sc X) (hB : 3 ≤ B.1 ∧ 4 ≤ B.2.1 ∧ 40 ≤ B.2.2) (hq : ∀ w p o t, chR bs0 w p o t → Q none (ChW w p o t)) : X B 10 0 [some (.ref 0)] [] [.inr (1, [.null, .null, .null, .null])] Q := by
  obtain ⟨b1, b2, b3⟩ := hB
  repeat refine hX ?_
  refine And.intro ⟨by omega, Nat.le_of_ble_eq_true rfl⟩ ?_
  repeat refine hX ?_
  refine And.intro (by decide) (And.intro ⟨by decide, by omega, by show 10 ≤ _; omega⟩ ?_)
  repeat refine hX ?_
  refine And.intro (by decide) (And.intro ⟨by decide, by show 1 ≤ B.2.1 - 1; omega, by show 10 ≤ B.2.2 - 10; omega⟩ ?_)
  repeat refine hX ?_
  refine And.intro (by decide) (And.intro ⟨by decide, by show 1 ≤ B.2.1 - 1 - 1; omega, by show 10 ≤ B.2.2 - 10 - 10; omega⟩ ?_)
  repeat refine hX ?_
  refine And.intro (by decide) (And.intro ⟨by decide, by show 1 ≤ B.2.1 - 1 - 1 - 1; omega, by show 10 ≤ B.2.2 - 10 - 10 - 10; omega⟩ ?_)
  have r0 : chR [[], [], [], [], [], [], [], [], [], []] (List.replicate 10 0) (List.replicate 10 0) (List.replicate 10 0) (List.replicate 10 0) := by
    refine ⟨⟨rfl, rfl, rfl, rfl, rfl⟩, fun k hk => ?_⟩
    have e : ([[], [], [], [], [], [], [], [], [], []] : List (List Nat)).getD k [] = [] := (show ∀ k, k < 10 → ([[], [], [], [], [], [], [], [], [], []] : List (List Nat)).getD k [] = [] by decide) k hk
    rw [e, getD_rep]
    exact ⟨⟨by simp, fun c hc => by simp at hc⟩, rfl, rfl, rfl, rfl⟩
  have step : ∀ (B : pB) (bs : List (List Nat)) (w p o t : List Int32) (c : Int32) (k i : Nat) (pc : Nat) (Q : pQ), 3 ≤ B.1 → chR bs w p o t → k < 10 → kdI c = nI k → (i = 1 ∨ i = 2 ∨ i = 3 ∨ i = 4) → bs0.getD (i + 5) [] = bs0.getD k [] → (∀ w' p' o' t', chR (bs.set k (bs0.getD k [])) w' p' o' t' → X B 10 (pc + 11) [some (.ref 0)] [] (ChW w' p' o' t') Q) → (pc = 39 ∨ pc = 53 ∨ pc = 67 ∨ pc = 81) → (pc = 39 → i = 1) → (pc = 53 → i = 2) → (pc = 67 → i = 3) → (pc = 81 → i = 4) → X B 10 pc [some (.ref 0)] [.int c, .ref 0] (ChW w p o t) Q := by
    intro B bs w p o t c k i pc Q b1 hR hk hc hi he kk hpc q1 q2 q3 q4
    have hbk := bOk_bs0 k hk
    rcases hpc with rfl | rfl | rfl | rfl
    · obtain rfl := q1 rfl
      refine hX (cP [] [.int c] [] (some (.int (kdI c))) [.int (kdI c), .ref 0] (by omega) rfl rfl rfl rfl (fun Q' hQ' => t_kind hX (by show 1 ≤ B.1 - 1; omega) hQ') ?_)
      rw [hc]
      refine hX (hX (cP [] [.retAddr 1] [] (some (.int (nI (wC (bs0.getD (1 + 5) []))))) [.int (nI (wC (bs0.getD (1 + 5) []))), .int (nI k), .ref 0] (by omega) rfl rfl rfl rfl (fun Q' hQ' => t_wordFor hX (by omega) hQ') ?_))
      rw [he]
      exact hX (And.intro trivial (cM [0, 1, 2, 3, 4] [.ref 0, .int (nI k), .int (nI (wC (bs0.getD k [])))] (ChW w p o t) (fun u : List Int32 × List Int32 × List Int32 × List Int32 => chR (bs.set k (bs0.getD k [])) u.1 u.2.1 u.2.2.1 u.2.2.2) (fun _ => none) (fun u => ChW u.1 u.2.1 u.2.2.1 u.2.2.2) (fun u => ChW u.1 u.2.1 u.2.2.1 u.2.2.2) (fun _ => []) (by omega) rfl rfl rfl (fun _ => rfl) (fun _ => rfl) (fun _ => rfl) (fun Q' hQ' => t_ctake hX (by show 1 ≤ B.1 - 1; omega) hR hk hbk (fun w p o t h => hQ' (w, p, o, t) h)) (fun u hu => kk _ _ _ _ hu)))
    · obtain rfl := q2 rfl
      refine hX (cP [] [.int c] [] (some (.int (kdI c))) [.int (kdI c), .ref 0] (by omega) rfl rfl rfl rfl (fun Q' hQ' => t_kind hX (by show 1 ≤ B.1 - 1; omega) hQ') ?_)
      rw [hc]
      refine hX (hX (cP [] [.retAddr 2] [] (some (.int (nI (wC (bs0.getD (2 + 5) []))))) [.int (nI (wC (bs0.getD (2 + 5) []))), .int (nI k), .ref 0] (by omega) rfl rfl rfl rfl (fun Q' hQ' => t_wordFor hX (by omega) hQ') ?_))
      rw [he]
      exact hX (And.intro trivial (cM [0, 1, 2, 3, 4] [.ref 0, .int (nI k), .int (nI (wC (bs0.getD k [])))] (ChW w p o t) (fun u : List Int32 × List Int32 × List Int32 × List Int32 => chR (bs.set k (bs0.getD k [])) u.1 u.2.1 u.2.2.1 u.2.2.2) (fun _ => none) (fun u => ChW u.1 u.2.1 u.2.2.1 u.2.2.2) (fun u => ChW u.1 u.2.1 u.2.2.1 u.2.2.2) (fun _ => []) (by omega) rfl rfl rfl (fun _ => rfl) (fun _ => rfl) (fun _ => rfl) (fun Q' hQ' => t_ctake hX (by show 1 ≤ B.1 - 1; omega) hR hk hbk (fun w p o t h => hQ' (w, p, o, t) h)) (fun u hu => kk _ _ _ _ hu)))
    · obtain rfl := q3 rfl
      refine hX (cP [] [.int c] [] (some (.int (kdI c))) [.int (kdI c), .ref 0] (by omega) rfl rfl rfl rfl (fun Q' hQ' => t_kind hX (by show 1 ≤ B.1 - 1; omega) hQ') ?_)
      rw [hc]
      refine hX (hX (cP [] [.retAddr 3] [] (some (.int (nI (wC (bs0.getD (3 + 5) []))))) [.int (nI (wC (bs0.getD (3 + 5) []))), .int (nI k), .ref 0] (by omega) rfl rfl rfl rfl (fun Q' hQ' => t_wordFor hX (by omega) hQ') ?_))
      rw [he]
      exact hX (And.intro trivial (cM [0, 1, 2, 3, 4] [.ref 0, .int (nI k), .int (nI (wC (bs0.getD k [])))] (ChW w p o t) (fun u : List Int32 × List Int32 × List Int32 × List Int32 => chR (bs.set k (bs0.getD k [])) u.1 u.2.1 u.2.2.1 u.2.2.2) (fun _ => none) (fun u => ChW u.1 u.2.1 u.2.2.1 u.2.2.2) (fun u => ChW u.1 u.2.1 u.2.2.1 u.2.2.2) (fun _ => []) (by omega) rfl rfl rfl (fun _ => rfl) (fun _ => rfl) (fun _ => rfl) (fun Q' hQ' => t_ctake hX (by show 1 ≤ B.1 - 1; omega) hR hk hbk (fun w p o t h => hQ' (w, p, o, t) h)) (fun u hu => kk _ _ _ _ hu)))
    · obtain rfl := q4 rfl
      refine hX (cP [] [.int c] [] (some (.int (kdI c))) [.int (kdI c), .ref 0] (by omega) rfl rfl rfl rfl (fun Q' hQ' => t_kind hX (by show 1 ≤ B.1 - 1; omega) hQ') ?_)
      rw [hc]
      refine hX (hX (cP [] [.retAddr 4] [] (some (.int (nI (wC (bs0.getD (4 + 5) []))))) [.int (nI (wC (bs0.getD (4 + 5) []))), .int (nI k), .ref 0] (by omega) rfl rfl rfl rfl (fun Q' hQ' => t_wordFor hX (by omega) hQ') ?_))
      rw [he]
      exact hX (And.intro trivial (cM [0, 1, 2, 3, 4] [.ref 0, .int (nI k), .int (nI (wC (bs0.getD k [])))] (ChW w p o t) (fun u : List Int32 × List Int32 × List Int32 × List Int32 => chR (bs.set k (bs0.getD k [])) u.1 u.2.1 u.2.2.1 u.2.2.2) (fun _ => none) (fun u => ChW u.1 u.2.1 u.2.2.1 u.2.2.2) (fun u => ChW u.1 u.2.1 u.2.2.1 u.2.2.2) (fun _ => []) (by omega) rfl rfl rfl (fun _ => rfl) (fun _ => rfl) (fun _ => rfl) (fun Q' hQ' => t_ctake hX (by show 1 ≤ B.1 - 1; omega) hR hk hbk (fun w p o t h => hQ' (w, p, o, t) h)) (fun u hu => kk _ _ _ _ hu)))
  iterate 3 refine hX ?_
  refine step (B.1, B.2.1 - 1 - 1 - 1 - 1, B.2.2 - 10 - 10 - 10 - 10) _ _ _ _ _ 97 6 1 39 Q b1 r0 (by omega) (by decide) (by omega) rfl (fun w p o t r1 => ?_) (by omega) (by omega) (by omega) (by omega) (by omega)
  iterate 2 refine hX ?_
  refine step (B.1, B.2.1 - 1 - 1 - 1 - 1, B.2.2 - 10 - 10 - 10 - 10) _ _ _ _ _ 98 7 2 53 Q b1 r1 (by omega) (by decide) (by omega) rfl (fun w p o t r2 => ?_) (by omega) (by omega) (by omega) (by omega) (by omega)
  iterate 2 refine hX ?_
  refine step (B.1, B.2.1 - 1 - 1 - 1 - 1, B.2.2 - 10 - 10 - 10 - 10) _ _ _ _ _ 102 8 3 67 Q b1 r2 (by omega) (by decide) (by omega) rfl (fun w p o t r3 => ?_) (by omega) (by omega) (by omega) (by omega) (by omega)
  iterate 2 refine hX ?_
  refine step (B.1, B.2.1 - 1 - 1 - 1 - 1, B.2.2 - 10 - 10 - 10 - 10) _ _ _ _ _ 103 9 4 81 Q b1 r3 (by omega) (by decide) (by omega) rfl (fun w p o t r4 => ?_) (by omega) (by omega) (by omega) (by omega) (by omega)
  repeat refine hX ?_
  exact hq w p o t r4
end CI
