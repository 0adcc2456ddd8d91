/-! All CHOICES of a SIZE, as they go up. -/
theorem ev_app {V : Type} (f : Int32 → List V → V) : ∀ (x r : List Int32) (n : Nat), okF x n = true → ev f (x ++ r) = ev f x ++ ev f r ∧ (ev f x).length = n
  | [], r, n, h => by
    have := okF_nil h
    subst this
    exact ⟨rfl, rfl⟩
  | c :: x, r, n, h => by
    obtain ⟨k, rfl, h2⟩ := okF_cons h
    obtain ⟨e1, e2⟩ := ev_app f x r _ h2
    refine ⟨?_, ?_⟩
    · rw [List.cons_append, ev, e1, ev, List.take_append_of_le_length (by omega), List.drop_append_of_le_length (by omega)]
      rfl
    · rw [ev, List.length_cons, List.length_drop, e2]
      omega
theorem grw_app {bs : List (List Nat)} {x r : List Int32} (h : okF x 1 = true) : grw bs (x ++ r) = grw bs x := by
  obtain ⟨e1, e2⟩ := ev_app (grf bs) x r 1 h
  rw [grw, grw, e1]
  cases hx : ev (grf bs) x with
  | nil => rw [hx] at e2; simp at e2
  | cons v l => rfl
theorem ev_congr {V : Type} {f g : Int32 → List V → V} : ∀ (l : List Int32), (∀ c ∈ l, ∀ as, f c as = g c as) → ev f l = ev g l
  | [], _ => rfl
  | c :: l, h => by
    rw [ev, ev, ev_congr l (fun d hd => h d (List.mem_cons_of_mem _ hd)), h c List.mem_cons_self]
theorem grw_congr {bs bs' : List (List Nat)} {l : List Int32} (h : ∀ c ∈ l, bs.getD (kN c) [] = bs'.getD (kN c) []) : grw bs l = grw bs' l := by
  rw [grw, grw, ev_congr (f := grf bs) (g := grf bs') l (fun c hc as => by unfold grf; rw [h c hc])]
theorem agP_congr {l : List Int32} {bs bs' : List (List Nat)} {q : Nat × Nat} (hq : pOK l q) (h1 : ∀ c ∈ tmL l q.1, bs.getD (kN c) [] = bs'.getD (kN c) []) (h2 : ∀ c ∈ tmL l q.2, bs.getD (kN c) [] = bs'.getD (kN c) []) : agP l bs q ↔ agP l bs' q := by
  obtain ⟨x, xr, y, yr, d1, d2, d3, d4, d5⟩ := hq
  rw [tmL_eq d1 d2] at h1
  rw [tmL_eq d3 d4] at h2
  rw [agP, agP, d1, d3, grw_app d2, grw_app d4, grw_app d2, grw_app d4, grw_congr h1, grw_congr h2]
theorem tmL_mem {l : List Int32} {p : Nat} {c : Int32} (h : c ∈ tmL l p) : c ∈ l := List.mem_of_mem_drop (List.mem_of_mem_take h)
theorem spF_bv {parts : Nat} : ∀ (n o : Nat), ∀ b ∈ spF parts n o, (parts < 1 → cf 1 b = 0) ∧ (parts < 2 → cf 2 b = 0)
  | 0, o, s, h => by
    rw [spF, List.mem_singleton] at h
    subst h
    exact ⟨fun _ => rfl, fun _ => rfl⟩
  | n + 1, o, s, h => by
    rw [spF, List.mem_flatMap] at h
    obtain ⟨c, hc, h⟩ := h
    unfold spC at h
    split at h
    · rename_i hcond
      obtain ⟨s', hs', rfl⟩ := List.mem_map.mp h
      obtain ⟨h1, h2⟩ := spF_bv n _ s' hs'
      have h0 := hcond.1
      simp only [List.mem_cons, List.not_mem_nil, or_false] at hc
      refine ⟨fun hp => ?_, fun hp => ?_⟩
      · rw [cf, h1 hp, if_neg (by omega)]
      · rw [cf, h2 hp, if_neg (by omega)]
    · simp at h
theorem spF_bv6 {parts n : Nat} (hn : n ≤ 6) {b : List Nat} (h : b ∈ spF parts n 1) : bv parts b := by
  obtain ⟨h1, h2⟩ := spF_ok n 1 b h
  exact ⟨⟨by omega, h2⟩, spF_bv n 1 b h⟩
/-- a BODY is a term of figures and letters -/
def okC : List Nat → Nat → Bool
  | [], 0 => true
  | [], _ + 1 => false
  | _ :: _, 0 => false
  | c :: r, n + 1 => okC r (n + arC c)
theorem spF_okC {parts : Nat} : ∀ (n o : Nat), (n = 0 → o = 0) → (0 < n → 0 < o) → ∀ b ∈ spF parts n o, okC b o = true
  | 0, o, h0, _, s, h => by
    rw [spF, List.mem_singleton] at h
    rw [h, h0 rfl]
    rfl
  | n + 1, o, _, h1, s, h => by
    rw [spF, List.mem_flatMap] at h
    obtain ⟨c, hc, h⟩ := h
    unfold spC at h
    split at h
    · rename_i hcond
      obtain ⟨s', hs', rfl⟩ := List.mem_map.mp h
      have ho := h1 (by omega)
      have := spF_okC n _ (fun e => by omega) (fun e => by omega) s' hs'
      obtain ⟨o', rfl⟩ : ∃ o', o = o' + 1 := ⟨o - 1, by omega⟩
      exact this
    · simp at h
/-- CHOICES for these letters, of this SIZE together, over one for the others -/
def enum : List Nat → Nat → List (List Nat) → List (List (List Nat))
  | [], left, bs => if left = 0 then [bs] else []
  | x :: r, left, bs => (List.range' (if r.length = 0 then left else 1) (left - r.length + 1 - (if r.length = 0 then left else 1))).flatMap fun s => (spF (x % 3) s 1).flatMap fun b => enum r (left - s) (bs.set x b)
def chs (bs : List (List Nat)) (l : List Nat) : Prop := ∀ y ∈ l, bv (y % 3) (bs.getD y []) ∧ okC (bs.getD y []) 1 = true
def rig (bs : List (List Nat)) : Prop := ∀ k, 6 ≤ k → k < 10 → bs.getD k [] = bs0.getD k []
theorem enum_mem : ∀ (r : List Nat) (left : Nat) (bs bs2 : List (List Nat)), r.Nodup → (∀ y ∈ r, y < bs.length) → r.length ≤ left → left ≤ 6 → bs2 ∈ enum r left bs → bs2.length = bs.length ∧ (∀ y, y ∉ r → bs2.getD y [] = bs.getD y []) ∧ chs bs2 r
  | [], left, bs, bs2, _, _, _, _, h => by
    rw [enum] at h
    split at h
    · rw [List.mem_singleton] at h
      subst h
      exact ⟨rfl, fun _ _ => rfl, fun y hy => by simp at hy⟩
    · simp at h
  | x :: r, left, bs, bs2, hn, hl, hrl, h6, h => by
    rw [List.nodup_cons] at hn
    rw [List.length_cons] at hrl
    rw [enum, List.mem_flatMap] at h
    obtain ⟨s, hs, h⟩ := h
    rw [List.mem_flatMap] at h
    obtain ⟨b, hb, h⟩ := h
    have hs2 := List.mem_range'_1.mp hs
    have hsl : s ≤ left - r.length ∧ 1 ≤ s := by
      by_cases e : r.length = 0
      · rw [if_pos e] at hs2; omega
      · rw [if_neg e] at hs2; omega
    obtain ⟨e1, e2, e3⟩ := enum_mem r (left - s) (bs.set x b) bs2 hn.2 (fun y hy => by rw [List.length_set]; exact hl y (List.mem_cons_of_mem _ hy)) (by omega) (by omega) h
    refine ⟨by rw [e1, List.length_set], fun y hy => ?_, fun y hy => ?_⟩
    · rw [List.mem_cons, not_or] at hy
      rw [e2 y hy.2, getD_set_ne (fun q => hy.1 q.symm)]
    · rcases List.mem_cons.mp hy with rfl | hy
      · rw [e2 y hn.1, getD_set_eq (hl y List.mem_cons_self)]
        exact ⟨spF_bv6 (by omega) hb, spF_okC s 1 (fun e => by omega) (fun _ => by omega) b hb⟩
      · exact e3 y hy
theorem BTf_row {p s : Nat} (hp : p ≤ 2) (hs : 1 ≤ s ∧ s ≤ 6) : ∃ R, BTf 18 = BTf (p * 6 + s - 1) ++ spF p s 1 ++ R ∧ (BTf (p * 6 + s)).length = (BTf (p * 6 + s - 1)).length + (spF p s 1).length := by
  have pre : ∀ j k, ∃ R, BTf (k + j) = BTf k ++ R := by
    intro j
    induction j with
    | zero => exact fun k => ⟨[], by simp⟩
    | succ j ih =>
      intro k
      obtain ⟨R, hR⟩ := ih k
      exact ⟨_, by rw [← Nat.add_assoc, BTf_succ, hR, List.append_assoc]⟩
  have e := BTf_succ (p * 6 + s - 1)
  rw [show p * 6 + s - 1 + 1 = p * 6 + s by omega, show (p * 6 + s - 1) / 6 = p by omega, show (p * 6 + s - 1) % 6 + 1 = s by omega] at e
  obtain ⟨R, hR⟩ := pre (18 - (p * 6 + s)) (p * 6 + s)
  rw [show p * 6 + s + (18 - (p * 6 + s)) = 18 by omega, e] at hR
  exact ⟨R, hR, by rw [e, List.length_append]⟩
theorem BTf_at {p s : Nat} (hp : p ≤ 2) (hs : 1 ≤ s ∧ s ≤ 6) {dn rs : List (List Nat)} {b : List Nat} (h : spF p s 1 = dn ++ b :: rs) : (BTf (p * 6 + s - 1)).length + dn.length < 1822 ∧ (BTf 18).getD ((BTf (p * 6 + s - 1)).length + dn.length) [] = b := by
  obtain ⟨R, e, -⟩ := BTf_row hp hs
  have e18 := BTf_18
  rw [e, h] at e18
  simp only [List.length_append, List.length_cons] at e18
  refine ⟨by omega, ?_⟩
  rw [e, h, List.append_assoc, List.append_assoc, List.getD_eq_getElem?_getD, List.getElem?_append_right (by omega), show (BTf (p * 6 + s - 1)).length + dn.length - (BTf (p * 6 + s - 1)).length = dn.length by omega, List.getElem?_append_right (Nat.le_refl _), Nat.sub_self]
  rfl
theorem bv_rig {bs : List (List Nat)} (h : rig bs) {st : List Nat} (hc : chs bs st) {c : Int32} (hk : ¬ kdI c = -1) (hf : fxI c = 1 → kN c ∈ st) : bv (arN c) (bs.getD (kN c) []) := by
  have key : ∀ c ∈ ([85, 86, 87, 88, 89, 90, 97, 98, 102, 103] : List Int32), (fxI c = 1 ∧ arN c = kN c % 3) ∨ (6 ≤ kN c ∧ kN c < 10 ∧ bs0.getD (kN c) [] ∈ ([[3], [4], [5, 1], [6, 1, 2]] : List (List Nat)) ∧ ((arN c < 1 → cf 1 (bs0.getD (kN c) []) = 0) ∧ (arN c < 2 → cf 2 (bs0.getD (kN c) []) = 0))) := by decide
  rcases key c (letters10 hk) with ⟨h1, h2⟩ | ⟨h1, h2, h3, h4⟩
  · rw [h2]
    exact (hc _ (hf h1)).1
  · rw [h _ h1 h2]
    refine ⟨?_, h4⟩
    simp only [List.mem_cons, List.not_mem_nil, or_false] at h3
    rcases h3 with e | e | e | e <;> rw [e] <;> exact ⟨by decide, by decide⟩
