/-! THE TEXT: how it is read, a byte at a time. -/
/-- sides that stand, the letters of the side that is read, how many parts its open letters still want (the innermost first), what may come next: 0 an equation or the end, 1 a letter, 2 a bracket, 3 what stands behind a term -/
abbrev pS : Type := List (List Int32) × List Int32 × List Nat × Nat
def pst (σ : pS) (c : Int32) : Option pS := match σ with
  | (E, cur, s, aw) =>
    if aw ≤ 1 then
      if kdI c = -1 ∨ 8 ≤ E.length ∨ 40 ≤ E.flatten.length + cur.length then none else if arN c = 0 then some (E, cur ++ [c], s, 3) else some (E, cur ++ [c], arN c :: s, 2)
    else if aw = 2 then
      if c = 40 then some (E, cur, s, 1) else none
    else match s with
      | p :: s' => if 1 < p then (if c = 44 then some (E, cur, (p - 1) :: s', 1) else none) else if c = 41 then some (E, cur, s', 3) else none
      | [] => if E.length % 2 = 0 then (if c = 61 then some (E ++ [cur], [], [], 1) else none) else if c = 59 then some (E ++ [cur], [], [], 0) else none
/-- a stack of numbers in a row of 40, its top first -/
def stR (s : List Nat) (pl : List Int32) : Prop := pl.length = 40 ∧ s.length ≤ 40 ∧ ∀ i, i < s.length → pl.getD (s.length - 1 - i) 0 = nI (s.getD i 0)
theorem stR_top {p : Nat} {s : List Nat} {pl : List Int32} (h : stR (p :: s) pl) : pl.getD s.length 0 = nI p ∧ stR s pl ∧ s.length < 40 := by
  obtain ⟨h1, h2, h3⟩ := h
  rw [List.length_cons] at h2 h3
  refine ⟨?_, ⟨h1, by omega, fun i hi => ?_⟩, by omega⟩
  · have := h3 0 (by omega)
    simpa using this
  · have := h3 (i + 1) (by omega)
    rw [show s.length + 1 - 1 - (i + 1) = s.length - 1 - i by omega] at this
    simpa using this
theorem stR_push {p : Nat} {s : List Nat} {pl : List Int32} (h : stR s pl) (hs : s.length < 40) : stR (p :: s) (pl.set s.length (nI p)) := by
  obtain ⟨h1, h2, h3⟩ := h
  refine ⟨by rw [List.length_set]; exact h1, by rw [List.length_cons]; omega, fun i hi => ?_⟩
  rw [List.length_cons] at hi ⊢
  cases i with
  | zero =>
    rw [show s.length + 1 - 1 - 0 = s.length by omega, getD_set_eq (by omega)]
    rfl
  | succ i =>
    rw [show s.length + 1 - 1 - (i + 1) = s.length - 1 - i by omega, getD_set_ne (by omega), h3 i (by omega)]
    simp
theorem stR_nil {pl : List Int32} (h : pl.length = 40) : stR [] pl := ⟨h, by simp, fun i hi => by simp at hi⟩
def TxW (by' pl : List Int32) (ln dp aw : Int32) (L S N D C : List Int32) (sd tt : Int32) : pH := [.inr (8, [.ref 1, .ref 2, .int ln, .int dp, .int aw]), .inl by', .inl pl, .inr (2, [.ref 4, .ref 5, .ref 6, .ref 7, .ref 8, .int sd, .int tt]), .inl L, .inl S, .inl N, .inl D, .inl C]
/-- how many terms the side still wants -/
def pNeed (s : List Nat) (aw : Nat) : Nat := (s.map (fun p => p - 1)).sum + (if aw = 3 then 0 else 1)
/-- what always holds while the text is read -/
def pInv (σ : pS) : Prop := match σ with
  | (E, cur, s, aw) => (E.length ≤ 8 ∧ E.flatten.length + cur.length ≤ 40 ∧ s.length ≤ cur.length ∧ aw ≤ 3) ∧ (∀ t ∈ E, okF t 1 = true) ∧ (∀ p ∈ s, 1 ≤ p ∧ p ≤ 2) ∧ (∀ r, okF r (pNeed s aw) = true → okF (cur ++ r) 1 = true) ∧ (0 < cur.length → E.length < 8) ∧ (2 ≤ aw → 0 < cur.length) ∧ (aw = 0 → cur = [] ∧ s = [] ∧ E.length % 2 = 0)
theorem arN_12 {c : Int32} (h : ¬ arN c = 0) : 1 ≤ arN c ∧ arN c ≤ 2 := by have := arN_le c; omega
theorem pInv_step {σ σ' : pS} {c : Int32} (h : pInv σ) (hs : pst σ c = some σ') : pInv σ' := by
  obtain ⟨E, cur, s, aw⟩ := σ
  obtain ⟨⟨h1, h2, h3, h4⟩, h5, h6, h7, h8, h9, h10⟩ := h
  simp only [pst] at hs
  split at hs
  · rename_i haw
    split at hs
    · cases hs
    · rename_i hc
      simp only [not_or] at hc
      have hnd : pNeed s aw = (s.map (fun p => p - 1)).sum + 1 := by rw [pNeed, if_neg (by omega)]
      rw [hnd] at h7
      split at hs
      · rename_i ha
        cases hs
        refine ⟨⟨h1, by rw [List.length_append, List.length_singleton]; omega, by rw [List.length_append, List.length_singleton]; omega, by omega⟩, h5, h6, fun r hr => ?_, fun _ => by omega, fun _ => by rw [List.length_append, List.length_singleton]; omega, fun q => by omega⟩
        rw [List.append_assoc]
        refine h7 ([c] ++ r) ?_
        show okF r (_ + arN c) = true
        rw [ha]
        exact hr
      · rename_i ha
        cases hs
        refine ⟨⟨h1, by rw [List.length_append, List.length_singleton]; omega, by rw [List.length_append, List.length_singleton, List.length_cons]; omega, by omega⟩, h5, fun p hp => by rcases List.mem_cons.mp hp with rfl | hp; exact arN_12 ha; exact h6 p hp, fun r hr => ?_, fun _ => by omega, fun _ => by rw [List.length_append, List.length_singleton]; omega, fun q => by omega⟩
        rw [List.append_assoc]
        refine h7 ([c] ++ r) ?_
        show okF r (_ + arN c) = true
        rw [pNeed, if_neg (by omega), List.map_cons, List.sum_cons] at hr
        rw [show (s.map (fun p => p - 1)).sum + arN c = arN c - 1 + (s.map (fun p => p - 1)).sum + 1 by have := arN_12 ha; omega]
        exact hr
  · split at hs
    · rename_i _ haw
      split at hs
      · cases hs
        subst haw
        exact ⟨⟨h1, h2, h3, by omega⟩, h5, h6, h7, h8, fun q => by omega, fun q => by omega⟩
      · cases hs
    · rename_i ha1 ha2
      have haw : aw = 3 := by omega
      subst haw
      have hnd : pNeed s 3 = (s.map (fun p => p - 1)).sum := by rw [pNeed, if_pos rfl]; omega
      rw [hnd] at h7
      split at hs
      · rename_i p s'
        rw [List.length_cons] at h3
        have hp := h6 p List.mem_cons_self
        rw [List.map_cons, List.sum_cons] at h7
        split at hs
        · rename_i hp1
          split at hs
          · cases hs
            refine ⟨⟨h1, h2, by rw [List.length_cons]; omega, by omega⟩, h5, fun q hq => by rcases List.mem_cons.mp hq with rfl | hq; omega; exact h6 q (List.mem_cons_of_mem _ hq), fun r hr => h7 r ?_, h8, fun q => by omega, fun q => by omega⟩
            rw [pNeed, if_neg (by omega), List.map_cons, List.sum_cons] at hr
            rw [show p - 1 + (s'.map (fun p => p - 1)).sum = p - 1 - 1 + (s'.map (fun p => p - 1)).sum + 1 by omega]
            exact hr
          · cases hs
        · rename_i hp1
          split at hs
          · cases hs
            refine ⟨⟨h1, h2, by omega, by omega⟩, h5, fun q hq => h6 q (List.mem_cons_of_mem _ hq), fun r hr => h7 r ?_, h8, fun _ => h9 (by omega), fun q => by omega⟩
            rw [pNeed, if_pos rfl] at hr
            rw [show p - 1 + (s'.map (fun p => p - 1)).sum = (s'.map (fun p => p - 1)).sum + 0 by omega]
            exact hr
          · cases hs
      · have hcur := h9 (by omega)
        have hE8 := h8 hcur
        have hok : okF cur 1 = true := by have := h7 [] rfl; rw [List.append_nil] at this; exact this
        have key : ∀ a, (a = 0 → E.length % 2 = 1) → a ≤ 1 → pInv (E ++ [cur], [], [], a) := by
          intro a ha ha1
          refine ⟨⟨by rw [List.length_append, List.length_singleton]; omega, by rw [List.flatten_append, List.length_append]; simp; simp at h2; omega, by simp, by omega⟩, fun t ht => ?_, fun q hq => by simp at hq, fun r hr => ?_, fun q => by simp at q, fun q => by omega, fun q => ⟨rfl, rfl, by rw [List.length_append, List.length_singleton]; have := ha q; omega⟩⟩
          · rcases List.mem_append.mp ht with ht | ht
            · exact h5 t ht
            · rw [List.mem_singleton.mp ht]; exact hok
          · rw [pNeed, if_neg (by omega)] at hr
            exact hr
        split at hs
        · split at hs
          · cases hs
            exact key 1 (fun q => by omega) (by omega)
          · cases hs
        · rename_i hpar
          split at hs
          · cases hs
            exact key 0 (fun _ => by omega) (by omega)
          · cases hs
