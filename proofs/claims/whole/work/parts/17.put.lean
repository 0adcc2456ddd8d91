/-! A callee's heap in its caller's: the lists. -/
def lput {α : Type} : List Nat → List α → List α → List α
  | i :: ρ, x :: xs, l => lput ρ xs (l.set i x)
  | [], x :: xs, l => lput [] xs (l ++ [x])
  | _, [], l => l
theorem hput_eq (ρ' : List Nat) : ∀ (ρ : List Nat) (h' h : pH), hput ρ' ρ h' h = lput ρ (h'.map (rnc ρ')) h
  | [], [], h => by simp [hput, lput]
  | i :: ρ, [], h => by simp [hput, lput]
  | i :: ρ, c :: h', h => by rw [hput, List.map_cons, lput, hput_eq ρ' ρ h']
  | [], c :: h', h => by rw [hput, List.map_cons, lput, hput_eq ρ' [] h']
theorem lput_nil {α : Type} : ∀ (xs l : List α), lput [] xs l = l ++ xs
  | [], l => by simp [lput]
  | x :: xs, l => by rw [lput, lput_nil xs]; simp
theorem lput_map {α β : Type} (f : α → β) : ∀ (ρ : List Nat) (xs l : List α), (lput ρ xs l).map f = lput ρ (xs.map f) (l.map f)
  | [], xs, l => by rw [lput_nil, lput_nil, List.map_append]
  | i :: ρ, [], l => by simp [lput]
  | i :: ρ, x :: xs, l => by rw [lput, List.map_cons, lput, lput_map f ρ xs, List.map_set]
theorem lput_len {α : Type} : ∀ (ρ : List Nat) (xs l : List α), ρ.length ≤ xs.length → (lput ρ xs l).length = l.length + (xs.length - ρ.length)
  | [], xs, l, _ => by rw [lput_nil, List.length_append]; simp
  | i :: ρ, [], l, h => by simp at h
  | i :: ρ, x :: xs, l, h => by
    rw [lput, lput_len ρ xs _ (by simpa using h), List.length_set]
    simp
theorem lput_other {α : Type} : ∀ (ρ : List Nat) (xs l : List α) (i : Nat), i ∉ ρ → i < l.length → (lput ρ xs l)[i]? = l[i]?
  | [], xs, l, i, _, hi => by rw [lput_nil, List.getElem?_append_left hi]
  | j :: ρ, [], l, i, _, hi => by simp [lput]
  | j :: ρ, x :: xs, l, i, h, hi => by
    rw [List.mem_cons, not_or] at h
    rw [lput, lput_other ρ xs _ i h.2 (by rw [List.length_set]; exact hi), List.getElem?_set_ne (fun q => h.1 q.symm)]
theorem lput_at {α : Type} : ∀ (ρ : List Nat) (xs l : List α) (k i : Nat), va_nd ρ = true → ρ[k]? = some i → i < l.length → ρ.length ≤ xs.length → (lput ρ xs l)[i]? = xs[k]?
  | [], xs, l, k, i, _, hk, _, _ => by simp at hk
  | j :: ρ, [], l, k, i, _, _, _, h => by simp at h
  | j :: ρ, x :: xs, l, 0, i, hn, hk, hi, h => by
    simp only [va_nd, Bool.and_eq_true, decide_eq_true_eq] at hn
    cases hk
    rw [lput, lput_other ρ xs _ j hn.1 (by rw [List.length_set]; exact hi), List.getElem?_set_self hi]
    rfl
  | j :: ρ, x :: xs, l, k + 1, i, hn, hk, hi, h => by
    simp only [va_nd, Bool.and_eq_true, decide_eq_true_eq] at hn
    rw [List.getElem?_cons_succ] at hk ⊢
    rw [lput]
    exact lput_at ρ xs _ k i hn.2 hk (by rw [List.length_set]; exact hi) (by simpa using h)
theorem lput_new {α : Type} : ∀ (ρ : List Nat) (xs l : List α) (i : Nat), ρ.length ≤ xs.length → l.length ≤ i → (lput ρ xs l)[i]? = xs[ρ.length + (i - l.length)]?
  | [], xs, l, i, _, hi => by rw [lput_nil, List.getElem?_append_right hi]; simp
  | j :: ρ, [], l, i, h, _ => by simp at h
  | j :: ρ, x :: xs, l, i, h, hi => by
    rw [lput, lput_new ρ xs _ i (by simpa using h) (by rw [List.length_set]; exact hi), List.length_set, List.length_cons, show ρ.length + 1 + (i - l.length) = (ρ.length + (i - l.length)) + 1 by omega, List.getElem?_cons_succ]
/-- every place of what comes back: a cell of the callee, or one that it didn't have -/
theorem lput_cases {α : Type} {ρ : List Nat} {xs l : List α} {i : Nat} {x : α} (hn : va_nd ρ = true) (hl : ∀ i ∈ ρ, i < l.length) (h : ρ.length ≤ xs.length) (hi : (lput ρ xs l)[i]? = some x) : (∃ k : Nat, (ρ ++ List.range' l.length (xs.length - ρ.length))[k]? = some i ∧ xs[k]? = some x) ∨ (i ∉ ρ ∧ i < l.length ∧ l[i]? = some x) := by
  by_cases h1 : i ∈ ρ
  · obtain ⟨k, hk⟩ := List.getElem?_of_mem h1
    refine Or.inl ⟨k, by rw [List.getElem?_append_left (List.getElem?_eq_some_iff.mp hk).1]; exact hk, ?_⟩
    rw [lput_at ρ xs l k i hn hk (hl i h1) h] at hi
    exact hi
  · by_cases h2 : i < l.length
    · rw [lput_other ρ xs l i h1 h2] at hi
      exact Or.inr ⟨h1, h2, hi⟩
    · rw [lput_new ρ xs l i h (by omega)] at hi
      have h3 := (List.getElem?_eq_some_iff.mp hi).1
      refine Or.inl ⟨ρ.length + (i - l.length), ?_, hi⟩
      rw [List.getElem?_append_right (by omega), List.getElem?_range' (by omega)]
      congr 1
      omega
theorem lput_self {α : Type} : ∀ (ρ : List Nat) (xs : List α) (nb l : List α), ρ.map (fun i => l[i]?) = xs.map some → lput ρ (xs ++ nb) l = l ++ nb
  | [], [], nb, l, _ => by rw [List.nil_append, lput_nil]
  | [], _ :: _, _, _, h => by simp at h
  | _ :: _, [], _, _, h => by simp at h
  | i :: ρ, x :: xs, nb, l, h => by
    simp only [List.map_cons, List.cons.injEq] at h
    have e : l.set i x = l := by
      apply List.ext_getElem?
      intro j
      by_cases hj : i = j
      · subst hj
        have hl := (List.getElem?_eq_some_iff.mp h.1).1
        rw [List.getElem?_set_self hl, h.1]
      · rw [List.getElem?_set_ne hj]
    rw [List.cons_append, lput, e]
    exact lput_self ρ xs nb l h.2
theorem map_exists {α β : Type} {f : α → Option β} : ∀ (l : List α), (∀ a ∈ l, ∃ b, f a = some b) → ∃ r : List β, l.map f = r.map some
  | [], _ => ⟨[], rfl⟩
  | a :: l, h => by
    obtain ⟨b, hb⟩ := h a List.mem_cons_self
    obtain ⟨r, hr⟩ := map_exists l (fun x hx => h x (List.mem_cons_of_mem _ hx))
    exact ⟨b :: r, by rw [List.map_cons, List.map_cons, hb, hr]⟩
theorem map_at {α β : Type} {f : α → Option β} {l : List α} {r : List β} (h : l.map f = r.map some) {k : Nat} {b : β} (hb : r[k]? = some b) : ∃ a, l[k]? = some a ∧ f a = some b := by
  have h1 : (r.map some)[k]? = some (some b) := by rw [List.getElem?_map, hb]; rfl
  rw [← h, List.getElem?_map] at h1
  cases ha : l[k]? with
  | none => rw [ha] at h1; cases h1
  | some a => rw [ha] at h1; exact ⟨a, rfl, Option.some.inj h1⟩
/-- the callee's references, and the caller's: inwards -/
theorem tv_in {sa : Nat → Option Nat} (h99 : sa 99999 = none) {as asc ρ : List Nat} (ha : ρ.map (pg as) = asc.map some) {v w : Value} (h : tv sa as (rnv ρ v) = some w) : tv sa asc v = some w := by
  cases v with
  | ref j =>
    simp only [rnv] at h
    cases hj : pg ρ j with
    | none => rw [hj] at h; simp [tv, h99] at h
    | some i =>
      rw [hj] at h
      obtain ⟨a, h1, h2⟩ := pg_map ha hj
      simp only [tv, h2, Option.map_some] at h
      simp only [tv, h1, Option.map_some]
      exact h
  | _ => exact h
theorem tv_ins {sa : Nat → Option Nat} (h99 : sa 99999 = none) {as asc ρ : List Nat} (ha : ρ.map (pg as) = asc.map some) : ∀ {vs ws : List Value}, (vs.map (rnv ρ)).map (tv sa as) = ws.map some → vs.map (tv sa asc) = ws.map some
  | [], [], _ => rfl
  | [], _ :: _, h => by simp at h
  | _ :: _, [], h => by simp at h
  | v :: vs, w :: ws, h => by
    simp only [List.map_cons, List.cons.injEq] at h ⊢
    exact ⟨tv_in h99 ha h.1, tv_ins h99 ha h.2⟩
theorem tc_in {cI cO : ClassId} {sa : Nat → Option Nat} (h99 : sa 99999 = none) {as asc ρ : List Nat} (ha : ρ.map (pg as) = asc.map some) {c : pC} {e : va_E} (h : tc cI cO sa as (rnc ρ c) e) : tc cI cO sa asc c e := by
  cases c with
  | inl xs => exact h
  | inr o =>
    simp only [tc, rnc] at h ⊢
    split at h
    · rename_i h50
      obtain ⟨f, h1, h2⟩ := h
      rw [if_pos h50]
      refine ⟨f, by rw [h1, List.length_map], fun j v hj => tv_in h99 ha (h2 j (rnv ρ v) ?_)⟩
      rw [pg_eq] at hj ⊢
      rw [List.getElem?_map, hj]; rfl
    · rename_i h50
      obtain ⟨gs, h1, h2⟩ := h
      rw [if_neg h50]
      exact ⟨gs, h1, tv_ins h99 ha h2⟩
/-- outwards -/
theorem tv_out {sa : Nat → Option Nat} {as as2 ρ : List Nat} (ha : ∀ j i, pg ρ j = some i → pg as2 j = pg as i) (hl : as2.length ≤ ρ.length) {v w : Value} (h : tv sa as2 v = some w) : tv sa as (rnv ρ v) = some w := by
  cases v with
  | ref j =>
    simp only [tv, Option.map_eq_some_iff] at h
    obtain ⟨a, h1, h2⟩ := h
    have hj : j < ρ.length := Nat.lt_of_lt_of_le (pg_lt h1) hl
    have hp : pg ρ j = some ρ[j] := by rw [pg_eq, List.getElem?_eq_getElem hj]
    simp only [rnv, hp, tv, Option.map_eq_some_iff]
    exact ⟨a, by rw [← ha j _ hp]; exact h1, h2⟩
  | _ => exact h
theorem tv_outs {sa : Nat → Option Nat} {as as2 ρ : List Nat} (ha : ∀ j i, pg ρ j = some i → pg as2 j = pg as i) (hl : as2.length ≤ ρ.length) : ∀ {vs ws : List Value}, vs.map (tv sa as2) = ws.map some → (vs.map (rnv ρ)).map (tv sa as) = ws.map some
  | [], [], _ => rfl
  | [], _ :: _, h => by simp at h
  | _ :: _, [], h => by simp at h
  | v :: vs, w :: ws, h => by
    simp only [List.map_cons, List.cons.injEq] at h ⊢
    exact ⟨tv_out ha hl h.1, tv_outs ha hl h.2⟩
theorem tc_out {cI cO : ClassId} {sa : Nat → Option Nat} {as as2 ρ : List Nat} (ha : ∀ j i, pg ρ j = some i → pg as2 j = pg as i) (hl : as2.length ≤ ρ.length) {c : pC} {e : va_E} (h : tc cI cO sa as2 c e) : tc cI cO sa as (rnc ρ c) e := by
  cases c with
  | inl xs => exact h
  | inr o =>
    simp only [tc, rnc] at h ⊢
    split at h
    · rename_i h50
      obtain ⟨f, h1, h2⟩ := h
      rw [if_pos h50]
      refine ⟨f, by rw [h1, List.length_map], fun j v hj => ?_⟩
      rw [pg_eq, List.getElem?_map] at hj
      cases hv : o.2[j]? with
      | none => rw [hv] at hj; cases hj
      | some u =>
        rw [hv] at hj
        cases hj
        exact tv_out ha hl (h2 j u (by rw [pg_eq]; exact hv))
    · rename_i h50
      obtain ⟨gs, h1, h2⟩ := h
      rw [if_neg h50]
      exact ⟨gs, h1, tv_outs ha hl h2⟩
