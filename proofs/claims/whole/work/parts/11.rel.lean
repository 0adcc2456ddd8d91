/-! The pure machine's states and the machine's: which belong together. -/
theorem pg_eq {α : Type} : ∀ (l : List α) (n : Nat), pg l n = l[n]?
  | [], n => by simp [pg]
  | a :: l, 0 => rfl
  | a :: l, n + 1 => by rw [List.getElem?_cons_succ]; exact pg_eq l n
theorem pg_lt {α : Type} {l : List α} {n : Nat} {a : α} (h : pg l n = some a) : n < l.length := by
  rw [pg_eq] at h
  exact (List.getElem?_eq_some_iff.mp h).1
theorem pg_app {α : Type} {l r : List α} {n : Nat} {a : α} (h : pg l n = some a) : pg (l ++ r) n = some a := by
  have hl := pg_lt h
  rw [pg_eq] at h ⊢
  rw [List.getElem?_append_left hl]
  exact h
theorem pg_set {α : Type} {l : List α} {i : Nat} (a : α) (h : i < l.length) : pg (l.set i a) i = some a := by
  rw [pg_eq, List.getElem?_set_self h]
theorem pg_set_ne {α : Type} {l : List α} {i j : Nat} (a : α) (h : ¬ i = j) : pg (l.set i a) j = pg l j := by
  rw [pg_eq, pg_eq, List.getElem?_set_ne h]
theorem pg_map {α β : Type} {f : α → Option β} {l : List α} {r : List β} (h : l.map f = r.map some) {i : Nat} {a : α} (hi : pg l i = some a) : ∃ b, pg r i = some b ∧ f a = some b := by
  rw [pg_eq] at hi
  have h1 : (l.map f)[i]? = some (f a) := by rw [List.getElem?_map, hi]; rfl
  rw [h, List.getElem?_map] at h1
  cases hb : r[i]? with
  | none => rw [hb] at h1; cases h1
  | some b => rw [hb] at h1; exact ⟨b, by rw [pg_eq]; exact hb, (Option.some.inj h1).symm⟩
def tv (sa : Nat → Option Nat) (as : List Nat) : Value → Option Value
  | .ref i => (pg as i).map .ref
  | .retAddr k => (sa k).map .ref
  | v => some v
theorem tv_app {sa : Nat → Option Nat} {as bs : List Nat} {v w : Value} (h : tv sa as v = some w) : tv sa (as ++ bs) v = some w := by
  cases v with
  | ref i =>
    simp only [tv, Option.map_eq_some_iff] at h ⊢
    obtain ⟨a, h1, h2⟩ := h
    exact ⟨a, pg_app h1, h2⟩
  | _ => exact h
theorem tv_apps {sa : Nat → Option Nat} {as bs : List Nat} : ∀ {vs ws : List Value}, vs.map (tv sa as) = ws.map some → vs.map (tv sa (as ++ bs)) = ws.map some
  | [], [], _ => rfl
  | [], _ :: _, h => by simp at h
  | _ :: _, [], h => by simp at h
  | v :: vs, w :: ws, h => by
    simp only [List.map_cons, List.cons.injEq] at h ⊢
    exact ⟨tv_app h.1, tv_apps h.2⟩
theorem tv_cat {sa : Nat → Option Nat} {as : List Nat} {v w : Value} (h : tv sa as v = some w) : w.category = v.category := by
  cases v with
  | ref i => simp only [tv, Option.map_eq_some_iff] at h; obtain ⟨a, _, rfl⟩ := h; rfl
  | retAddr i => simp only [tv, Option.map_eq_some_iff] at h; obtain ⟨a, _, rfl⟩ := h; rfl
  | _ => simp only [tv, Option.some.injEq] at h; rw [← h]
theorem tv_cats {sa : Nat → Option Nat} {as : List Nat} : ∀ {vs ws : List Value}, vs.map (tv sa as) = ws.map some → (ws.map fun v => v.category) = vs.map fun v => v.category
  | [], [], _ => rfl
  | [], _ :: _, h => by simp at h
  | _ :: _, [], h => by simp at h
  | v :: vs, w :: ws, h => by
    simp only [List.map_cons, List.cons.injEq] at h ⊢
    exact ⟨tv_cat h.1, tv_cats h.2⟩
/-- a cell of the pure heap, and the world's entry -/
def tc (cI cO : ClassId) (sa : Nat → Option Nat) (as : List Nat) (c : pC) (e : va_E) : Prop := match c with
  | .inl xs => e = .inl (cI, xs.length, .inl (fun j => xs.getD j 0))
  | .inr o => if o.1 = 50 then ∃ f : Nat → Option Nat, e = .inl (cO, o.2.length, .inr (.inr (.inr (.inr f)))) ∧ ∀ j v, pg o.2 j = some v → tv sa as v = some (va_rf (f j)) else ∃ gs : List Value, e = .inr (o.1, gs) ∧ o.2.map (tv sa as) = gs.map some
theorem tc_app {cI cO : ClassId} {sa : Nat → Option Nat} {as bs : List Nat} {c : pC} {e : va_E} (h : tc cI cO sa as c e) : tc cI cO sa (as ++ bs) c e := by
  cases c with
  | inl xs => exact h
  | inr o =>
    simp only [tc] at h ⊢
    split at h
    · rename_i h50
      obtain ⟨f, h1, h2⟩ := h
      rw [if_pos h50]
      exact ⟨f, h1, fun j v hj => tv_app (h2 j v hj)⟩
    · rename_i h50
      obtain ⟨gs, h1, h2⟩ := h
      rw [if_neg h50]
      exact ⟨gs, h1, tv_apps h2⟩
/-- a world -/
def wR (cI cO : ClassId) (sa : Nat → Option Nat) (as : List Nat) (h : pH) (ws : va_W) : Prop := ws.map (fun q => q.1) = as ∧ ws.length = h.length ∧ ∀ i c, pg h i = some c → ∃ a e, pg as i = some a ∧ ws[i]? = some (a, e) ∧ tc cI cO sa as c e
theorem wR.set {cI cO : ClassId} {sa : Nat → Option Nat} {as : List Nat} {h : pH} {ws : va_W} (w : wR cI cO sa as h ws) {i a : Nat} {c : pC} {e : va_E} (hi : i < h.length) (ha : pg as i = some a) (hc : tc cI cO sa as c e) : wR cI cO sa as (h.set i c) (ws.set i (a, e)) := by
  obtain ⟨h1, h2, h3⟩ := w
  refine ⟨?_, by rw [List.length_set, List.length_set, h2], fun j d hj => ?_⟩
  · rw [← h1]
    apply List.ext_getElem?
    intro k
    rw [List.getElem?_map, List.getElem?_map]
    by_cases hk : i = k
    · subst hk
      rw [List.getElem?_set_self (by omega)]
      rw [pg_eq, ← h1, List.getElem?_map] at ha
      rw [ha]; rfl
    · rw [List.getElem?_set_ne hk]
  · by_cases hk : i = j
    · subst hk
      rw [pg_set _ hi] at hj
      cases hj
      exact ⟨a, e, ha, by rw [List.getElem?_set_self (by omega)], hc⟩
    · rw [pg_set_ne _ hk] at hj
      obtain ⟨b, f, q1, q2, q3⟩ := h3 j d hj
      exact ⟨b, f, q1, by rw [List.getElem?_set_ne hk]; exact q2, q3⟩
theorem wR.push {cI cO : ClassId} {sa : Nat → Option Nat} {as : List Nat} {h : pH} {ws : va_W} (w : wR cI cO sa as h ws) {a : Nat} {c : pC} {e : va_E} (hc : tc cI cO sa (as ++ [a]) c e) : wR cI cO sa (as ++ [a]) (h ++ [c]) (ws ++ [(a, e)]) := by
  obtain ⟨h1, h2, h3⟩ := w
  have hl : as.length = ws.length := by rw [← h1, List.length_map]
  refine ⟨by rw [List.map_append, h1]; rfl, by simp [h2], fun j d hj => ?_⟩
  by_cases hk : j < h.length
  · have hj' : pg h j = some d := by
      rw [pg_eq, List.getElem?_append_left hk] at hj
      rw [pg_eq]; exact hj
    obtain ⟨b, f, q1, q2, q3⟩ := h3 j d hj'
    exact ⟨b, f, pg_app q1, by rw [List.getElem?_append_left (by omega)]; exact q2, tc_app q3⟩
  · have hj1 := pg_lt hj
    rw [List.length_append, List.length_singleton] at hj1
    have hj2 : j = h.length := by omega
    subst hj2
    rw [pg_eq, List.getElem?_append_right (Nat.le_refl _), Nat.sub_self] at hj
    cases hj
    refine ⟨a, e, ?_, ?_, hc⟩
    · rw [pg_eq, List.getElem?_append_right (by omega), show h.length - as.length = 0 by omega]; rfl
    · rw [List.getElem?_append_right (by omega), show h.length - ws.length = 0 by omega]; rfl
/-- locals -/
def lR (sa : Nat → Option Nat) (as : List Nat) (ls : pL) (n : Nat) (cls : Array Slot) : Prop := ls.length = n ∧ ∃ lv : List (Nat × Value), lv_has cls n lv ∧ ∀ i v, pg ls i = some (some v) → ∃ w, tv sa as v = some w ∧ (i, w) ∈ lv
theorem lR.app {sa : Nat → Option Nat} {as bs : List Nat} {ls : pL} {n : Nat} {cls : Array Slot} (h : lR sa as ls n cls) : lR sa (as ++ bs) ls n cls := by
  obtain ⟨h1, lv, h2, h3⟩ := h
  exact ⟨h1, lv, h2, fun i v hi => by obtain ⟨w, q1, q2⟩ := h3 i v hi; exact ⟨w, tv_app q1, q2⟩⟩
theorem lR.at {sa : Nat → Option Nat} {as : List Nat} {ls : pL} {n : Nat} {cls : Array Slot} (h : lR sa as ls n cls) {i : Nat} {v : Value} (hi : pg ls i = some (some v)) : ∃ w, tv sa as v = some w ∧ cls[i]? = some (.val w) := by
  obtain ⟨h1, lv, h2, h3⟩ := h
  obtain ⟨w, q1, q2⟩ := h3 i v hi
  exact ⟨w, q1, h2.2.2 _ q2⟩
theorem pHs_eq {α : Type} : ∀ (l : List α) (i : Nat) (v : α) (k : List α → Prop), pHs l i v k = k (l.set i v)
  | [], i, v, k => by simp [pHs]
  | a :: r, 0, v, k => rfl
  | a :: r, n + 1, v, k => by rw [pHs, pHs_eq r n v]; rfl
theorem pKillK_eq (ls : pL) (i : Nat) (k : pL → Prop) : pKillK ls i k = k (pKill ls i) := by
  cases i with
  | zero => rfl
  | succ j =>
    simp only [pKillK, pKill]
    split
    · rename_i v _
      cases Nat.beq v.category 2 <;> simp [pHs_eq]
    · rfl
theorem pKill_len (ls : pL) (i : Nat) : (pKill ls i).length = ls.length := by
  cases i with
  | zero => rfl
  | succ j =>
    simp only [pKill]
    split
    · rename_i v _
      cases Nat.beq v.category 2 <;> simp
    · rfl
theorem pKill_at {ls : pL} {i j : Nat} {v : Value} (h : pg (pKill ls i) j = some (some v)) : pg ls j = some (some v) ∧ ¬ (j + 1 = i ∧ v.category = 2) := by
  cases i with
  | zero => exact ⟨h, fun q => by omega⟩
  | succ k =>
    simp only [pKill] at h
    split at h
    · rename_i u hx
      cases hb : Nat.beq u.category 2 with
      | true =>
        rw [hb, cond_true] at h
        by_cases hj : k = j
        · subst hj
          rw [pg_set _ (pg_lt hx)] at h
          cases h
        · rw [pg_set_ne _ hj] at h
          exact ⟨h, fun q => hj (by omega)⟩
      | false =>
        rw [hb, cond_false] at h
        refine ⟨h, fun q => ?_⟩
        have hjk : j = k := by omega
        subst hjk
        rw [hx] at h
        cases h
        rw [q.2] at hb
        cases hb
    · rename_i hx
      refine ⟨h, fun q => ?_⟩
      have hjk : j = k := by omega
      subst hjk
      exact hx _ h
theorem lR.set {sa : Nat → Option Nat} {as : List Nat} {ls : pL} {n : Nat} {cls : Array Slot} (h : lR sa as ls n cls) : ∃ lv, lv_has cls n lv ∧ ∀ (i : Nat) (v w : Value) (cls' : Array Slot), i < n → tv sa as v = some w → lv_has cls' n ((i, w) :: lv.filter (fun q => !(q.1 == i) && !(q.1 + 1 == i && q.2.category == 2))) → lR sa as (pSet ls i v) n cls' := by
  obtain ⟨h1, lv, h2, h3⟩ := h
  refine ⟨lv, h2, fun i v w cls' hi hv hl => ⟨by rw [pSet, List.length_set, pKill_len, h1], _, hl, fun j u hj => ?_⟩⟩
  by_cases hij : i = j
  · subst hij
    rw [pSet, pg_set _ (by rw [pKill_len]; omega)] at hj
    cases hj
    exact ⟨w, hv, List.mem_cons_self⟩
  · rw [pSet, pg_set_ne _ hij] at hj
    obtain ⟨q1, q2⟩ := pKill_at hj
    obtain ⟨z, q3, q4⟩ := h3 j u q1
    refine ⟨z, q3, List.mem_cons_of_mem _ (List.mem_filter.mpr ⟨q4, ?_⟩)⟩
    simp only [Bool.and_eq_true, Bool.not_eq_true', beq_eq_false_iff_ne, ne_eq, Bool.and_eq_false_iff]
    refine ⟨fun z1 => hij z1.symm, ?_⟩
    by_cases hj1 : j + 1 = i
    · refine Or.inr fun hc => ?_
      have hc2 : u.category = 2 := by rw [← tv_cat q3]; exact hc
      exact q2 ⟨hj1, hc2⟩
    · exact Or.inl hj1
theorem lR.set2 {sa : Nat → Option Nat} {as : List Nat} {ls : pL} {n : Nat} {cls : Array Slot} (h : lR sa as ls n cls) : ∃ lv, lv_has cls n lv ∧ ∀ (i : Nat) (v w : Value) (cls' : Array Slot), i + 1 < n → tv sa as v = some w → lv_has cls' n ((i, w) :: lv.filter (fun q => !(q.1 == i) && (!(q.1 == i + 1) && !(q.1 + 1 == i && q.2.category == 2)))) → lR sa as (pSet2 ls i v) n cls' := by
  obtain ⟨h1, lv, h2, h3⟩ := h
  refine ⟨lv, h2, fun i v w cls' hi hv hl => ⟨by rw [pSet2, List.length_set, List.length_set, pKill_len, h1], _, hl, fun j u hj => ?_⟩⟩
  by_cases hi1 : i + 1 = j
  · subst hi1
    rw [pSet2, pg_set _ (by rw [List.length_set, pKill_len]; omega)] at hj
    cases hj
  rw [pSet2, pg_set_ne _ hi1] at hj
  by_cases hij : i = j
  · subst hij
    rw [pg_set _ (by rw [pKill_len]; omega)] at hj
    cases hj
    exact ⟨w, hv, List.mem_cons_self⟩
  · rw [pg_set_ne _ hij] at hj
    obtain ⟨q1, q2⟩ := pKill_at hj
    obtain ⟨z, q3, q4⟩ := h3 j u q1
    refine ⟨z, q3, List.mem_cons_of_mem _ (List.mem_filter.mpr ⟨q4, ?_⟩)⟩
    simp only [Bool.and_eq_true, Bool.not_eq_true', beq_eq_false_iff_ne, ne_eq, Bool.and_eq_false_iff]
    refine ⟨fun z1 => hij z1.symm, fun z1 => hi1 z1.symm, ?_⟩
    by_cases hj1 : j + 1 = i
    · refine Or.inr fun hc => ?_
      have hc2 : u.category = 2 := by rw [← tv_cat q3]; exact hc
      exact q2 ⟨hj1, hc2⟩
    · exact Or.inl hj1
