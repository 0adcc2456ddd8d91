/-! Terms as their letters from the left. -/
def arN (c : Int32) : Nat := if c = 102 ∨ c = 86 ∨ c = 89 then 1 else if c = 103 ∨ c = 87 ∨ c = 90 then 2 else 0
theorem arI_eq (c : Int32) : arI c = nI (arN c) := by
  unfold arI arN
  split
  · rfl
  · split <;> rfl
theorem arN_le (c : Int32) : arN c ≤ 2 := by
  unfold arN
  split
  · omega
  · split <;> omega
/-- how many letters the first n terms have -/
def tlen : List Int32 → Nat → Nat
  | _, 0 => 0
  | [], _ + 1 => 0
  | c :: l, n + 1 => 1 + tlen l (n + arN c)
/-- just n terms -/
def okF : List Int32 → Nat → Bool
  | [], 0 => true
  | [], _ + 1 => false
  | _ :: _, 0 => false
  | c :: l, n + 1 => okF l (n + arN c)
/-- a value for each term, out of its parts' values -/
def ev {V : Type} (f : Int32 → List V → V) : List Int32 → List V
  | [] => []
  | c :: l => f c ((ev f l).take (arN c)) :: (ev f l).drop (arN c)
theorem tlen_zero (l : List Int32) : tlen l 0 = 0 := by cases l <;> rfl
theorem tlen_nil (n : Nat) : tlen [] n = 0 := by cases n <;> rfl
theorem tlen_add : ∀ (l : List Int32) (a b : Nat), tlen l (a + b) = tlen l a + tlen (l.drop (tlen l a)) b
  | l, 0, b => by rw [tlen_zero, Nat.zero_add, Nat.zero_add]; rfl
  | [], a + 1, b => by simp [tlen_nil]
  | c :: l, a + 1, b => by
    rw [show a + 1 + b = (a + b) + 1 by omega, tlen, tlen, show a + b + arN c = (a + arN c) + b by omega, tlen_add l (a + arN c) b]
    rw [show (1 + tlen l (a + arN c)) = tlen l (a + arN c) + 1 by omega, List.drop_succ_cons]
    omega
theorem tlen_le : ∀ (l : List Int32) (n : Nat), tlen l n ≤ l.length
  | l, 0 => by rw [tlen_zero]; omega
  | [], n + 1 => by rw [tlen_nil]; omega
  | c :: l, n + 1 => by
    rw [tlen, List.length_cons]
    have := tlen_le l (n + arN c)
    omega
theorem ev_drop {V : Type} (f : Int32 → List V → V) : ∀ (l : List Int32) (k : Nat), (ev f l).drop k = ev f (l.drop (tlen l k))
  | l, 0 => by rw [tlen_zero]; rfl
  | [], k + 1 => by simp [ev]
  | c :: l, k + 1 => by
    rw [ev, List.drop_succ_cons, List.drop_drop, ev_drop f l, tlen, show 1 + tlen l (k + arN c) = tlen l (arN c + k) + 1 by rw [Nat.add_comm k]; omega, List.drop_succ_cons]
theorem okF_nil {n : Nat} (h : okF [] n = true) : n = 0 := by cases n with
  | zero => rfl
  | succ n => cases h
theorem okF_pos {l : List Int32} {n : Nat} (h : okF l n = true) (hn : 0 < n) : 0 < l.length := by
  cases l with
  | nil => rw [okF_nil h] at hn; omega
  | cons c l => simp
theorem okF_cons {c : Int32} {l : List Int32} {n : Nat} (h : okF (c :: l) n = true) : ∃ k, n = k + 1 ∧ okF l (k + arN c) = true := by
  cases n with
  | zero => cases h
  | succ k => exact ⟨k, rfl, h⟩
theorem okF_drop : ∀ (l : List Int32) (a b : Nat), okF l (a + b) = true → okF (l.drop (tlen l a)) b = true
  | l, 0, b, h => by rw [tlen_zero]; rw [Nat.zero_add] at h; exact h
  | [], a + 1, b, h => by have := okF_nil h; omega
  | c :: l, a + 1, b, h => by
    rw [show a + 1 + b = (a + b) + 1 by omega] at h
    rw [tlen, show 1 + tlen l (a + arN c) = tlen l (a + arN c) + 1 by omega, List.drop_succ_cons]
    exact okF_drop l (a + arN c) b (by rw [show a + arN c + b = a + b + arN c by omega]; exact h)
theorem okF_take : ∀ (l : List Int32) (a b : Nat), okF l (a + b) = true → okF (l.take (tlen l a)) a = true
  | l, 0, b, h => by rw [tlen_zero]; simp [okF]
  | [], a + 1, b, h => by have := okF_nil h; omega
  | c :: l, a + 1, b, h => by
    rw [show a + 1 + b = (a + b) + 1 by omega] at h
    rw [tlen, show 1 + tlen l (a + arN c) = tlen l (a + arN c) + 1 by omega, List.take_succ_cons]
    exact okF_take l (a + arN c) b (by rw [show a + arN c + b = a + b + arN c by omega]; exact h)
theorem okF_app : ∀ (l r : List Int32) (a b : Nat), okF l a = true → okF r b = true → okF (l ++ r) (a + b) = true
  | [], r, a, b, h, hr => by rw [okF_nil h, Nat.zero_add]; exact hr
  | c :: l, r, a, b, h, hr => by
    obtain ⟨k, rfl, h1⟩ := okF_cons h
    rw [show k + 1 + b = (k + b) + 1 by omega]
    show okF (l ++ r) (k + b + arN c) = true
    rw [show k + b + arN c = k + arN c + b by omega]
    exact okF_app l r _ b h1 hr
theorem okF_tlen : ∀ (l r : List Int32) (a : Nat), okF l a = true → tlen (l ++ r) a = l.length
  | [], r, a, h => by rw [okF_nil h, tlen_zero]; rfl
  | c :: l, r, a, h => by
    obtain ⟨k, rfl, h1⟩ := okF_cons h
    rw [List.cons_append, tlen, okF_tlen l r _ h1, List.length_cons]
    omega
/-- what stands behind a place of terms is terms -/
theorem okF_suffix : ∀ (l : List Int32) (n p : Nat), okF l n = true → p ≤ l.length → ∃ m, okF (l.drop p) m = true
  | l, n, 0, h, _ => ⟨n, h⟩
  | [], n, p + 1, h, hp => by simp at hp
  | c :: l, n, p + 1, h, hp => by
    obtain ⟨k, rfl, h1⟩ := okF_cons h
    rw [List.drop_succ_cons]
    exact okF_suffix l _ p h1 (by simpa using hp)
theorem drop_cons {l : List Int32} {p : Nat} (h : p < l.length) : l.drop p = l.getD p 0 :: l.drop (p + 1) := by
  rw [List.getD_eq_getElem?_getD, List.getElem?_eq_getElem h]
  exact List.drop_eq_getElem_cons h
/-- how deep -/
def dpf (l : List Int32) : Nat := (ev (fun _ (as : List Nat) => 1 + as.foldr max 0) l).headD 0
/-- where the second part begins -/
def sec (l : List Int32) (p : Nat) : Nat := if arN (l.getD p 0) = 2 then p + 1 + tlen (l.drop (p + 1)) 1 else p
def mOK (l N D C : List Int32) : Prop := (N.length = 40 ∧ D.length = 40 ∧ C.length = 40) ∧ ∀ p, p < l.length → N.getD p 0 = nI (tlen (l.drop p) 1) ∧ D.getD p 0 = nI (dpf (l.drop p)) ∧ C.getD p 0 = nI (sec l p)
theorem tlen1_0 {c : Int32} {l : List Int32} (h : arN c = 0) : tlen (c :: l) 1 = 1 := by rw [tlen, h, tlen_zero]
theorem tlen1_1 {c : Int32} {l : List Int32} (h : arN c = 1) : tlen (c :: l) 1 = 1 + tlen l 1 := by rw [tlen, h]
theorem tlen1_2 {c : Int32} {l : List Int32} (h : arN c = 2) : tlen (c :: l) 1 = 1 + tlen l 1 + tlen (l.drop (tlen l 1)) 1 := by
  rw [tlen, h, tlen_add l 1 1]; omega
theorem dpf_0 {c : Int32} {l : List Int32} (h : arN c = 0) : dpf (c :: l) = 1 := by simp [dpf, ev, h]
theorem ev_ne {V : Type} {f : Int32 → List V → V} {l : List Int32} (h : 0 < l.length) : ∃ v r, ev f l = v :: r := by
  cases l with
  | nil => simp at h
  | cons c l => exact ⟨_, _, rfl⟩
theorem dpf_1 {c : Int32} {l : List Int32} (h : arN c = 1) (hl : 0 < l.length) : dpf (c :: l) = dpf l + 1 := by
  obtain ⟨v, r, e⟩ := ev_ne (f := fun _ (as : List Nat) => 1 + as.foldr max 0) hl
  simp [dpf, ev, h, e]
  omega
theorem dpf_2 {c : Int32} {l : List Int32} (h : arN c = 2) (hl : 0 < l.length) (hl2 : tlen l 1 < l.length) : dpf (c :: l) = max (dpf l) (dpf (l.drop (tlen l 1))) + 1 := by
  obtain ⟨v, r, e⟩ := ev_ne (f := fun _ (as : List Nat) => 1 + as.foldr max 0) hl
  have e2 := ev_drop (fun _ (as : List Nat) => 1 + as.foldr max 0) l 1
  rw [e, List.drop_succ_cons, List.drop_zero] at e2
  obtain ⟨w, r2, e3⟩ := ev_ne (f := fun _ (as : List Nat) => 1 + as.foldr max 0) (l := l.drop (tlen l 1)) (by rw [List.length_drop]; omega)
  rw [e3] at e2
  subst e2
  simp [dpf, ev, h, e, e3]
  omega
theorem dpf_le : ∀ (l : List Int32), ∀ v ∈ ev (fun _ (as : List Nat) => 1 + as.foldr max 0) l, v ≤ l.length
  | [], v, h => by simp [ev] at h
  | c :: l, v, h => by
    rw [ev, List.mem_cons] at h
    rcases h with rfl | h
    · have key : ∀ (as : List Nat), (∀ a ∈ as, a ≤ l.length) → as.foldr max 0 ≤ l.length := by
        intro as
        induction as with
        | nil => intro _; simp
        | cons a as ih => intro ha; simp only [List.foldr_cons]; exact Nat.max_le.mpr ⟨ha a List.mem_cons_self, ih (fun b hb => ha b (List.mem_cons_of_mem _ hb))⟩
      have := key ((ev (fun _ (as : List Nat) => 1 + as.foldr max 0) l).take (arN c)) (fun a ha => dpf_le l a (List.mem_of_mem_take ha))
      rw [List.length_cons]
      omega
    · have := dpf_le l v (List.mem_of_mem_drop h)
      rw [List.length_cons]
      omega
theorem dpf_len (l : List Int32) : dpf l ≤ l.length := by
  cases h : ev (fun _ (as : List Nat) => 1 + as.foldr max 0) l with
  | nil => simp [dpf, h]
  | cons v r => rw [dpf, h]; exact dpf_le l v (by rw [h]; exact List.mem_cons_self)
