/-! FLEX letters by bits. -/
def flb (l : List Int32) (s : Nat) : Nat := l.foldl (fun s c => if fxI c = 1 then s ||| 2 ^ kN c else s) s
theorem fx_kN {c : Int32} (h : fxI c = 1) : ¬ kdI c = -1 ∧ c - 85 = nI (kN c) ∧ kN c < 6 := by
  have e := isFlex_kd h
  have hk : ¬ kdI c = -1 := by
    intro q
    rw [e] at q
    unfold fxI at h
    split at h
    · rename_i hc
      have h1 : (85 : Int) ≤ c.toInt := by have := Int32.le_iff_toInt_le.mp hc.1; simpa using this
      have hc2 : c = 84 := by
        have : c - 85 + 85 = -1 + 85 := by rw [q]
        rw [Int32.sub_add_cancel] at this
        exact this
      rw [hc2] at h1
      exact absurd h1 (by decide)
    · cases h
  have key : ∀ c ∈ ([85, 86, 87, 88, 89, 90, 97, 98, 102, 103] : List Int32), fxI c = 1 → c - 85 = nI (kN c) ∧ kN c < 6 := by decide
  exact ⟨hk, key c (letters10 hk) h⟩
theorem flS_eq : ∀ (l : List Int32) (s : Nat), l.foldl flS (nI s) = nI (flb l s)
  | [], s => rfl
  | c :: l, s => by
    rw [List.foldl_cons, flb, List.foldl_cons]
    by_cases h : fxI c = 1
    · obtain ⟨-, e, hk⟩ := fx_kN h
      rw [flS, if_pos h, if_pos h, e, show (1 : Int32) <<< (nI (kN c) &&& 31) = nI (1 * 2 ^ kN c) from nshl (w := 1) (by omega) (by
        have : 2 ^ kN c ≤ 2 ^ 6 := Nat.pow_le_pow_right (by omega) (by omega)
        omega), Nat.one_mul, nor]
      exact flS_eq l _
    · rw [flS, if_neg h, if_neg h]
      exact flS_eq l _
theorem flb_bit : ∀ (l : List Int32) (s x : Nat), (flb l s).testBit x = true ↔ s.testBit x = true ∨ ∃ c ∈ l, fxI c = 1 ∧ kN c = x
  | [], s, x => by simp [flb]
  | c :: l, s, x => by
    rw [flb, List.foldl_cons]
    have ih := flb_bit l (if fxI c = 1 then s ||| 2 ^ kN c else s) x
    rw [flb] at ih
    rw [ih]
    by_cases h : fxI c = 1
    · rw [if_pos h, Nat.testBit_or, Nat.testBit_two_pow, Bool.or_eq_true, decide_eq_true_eq]
      constructor
      · rintro ((a | a) | ⟨d, hd, a⟩)
        · exact Or.inl a
        · exact Or.inr ⟨c, List.mem_cons_self, h, a⟩
        · exact Or.inr ⟨d, List.mem_cons_of_mem _ hd, a⟩
      · rintro (a | ⟨d, hd, a, b⟩)
        · exact Or.inl (Or.inl a)
        · rcases List.mem_cons.mp hd with rfl | hd
          · exact Or.inl (Or.inr b)
          · exact Or.inr ⟨d, hd, a, b⟩
    · rw [if_neg h]
      constructor
      · rintro (a | ⟨d, hd, a⟩)
        · exact Or.inl a
        · exact Or.inr ⟨d, List.mem_cons_of_mem _ hd, a⟩
      · rintro (a | ⟨d, hd, a, b⟩)
        · exact Or.inl a
        · rcases List.mem_cons.mp hd with rfl | hd
          · exact absurd a h
          · exact Or.inr ⟨d, hd, a, b⟩
theorem flb_lt : ∀ (l : List Int32) (s : Nat), s < 64 → flb l s < 64
  | [], s, h => h
  | c :: l, s, h => by
    rw [flb, List.foldl_cons]
    refine flb_lt l _ ?_
    split
    · rename_i hf
      have hk := (fx_kN hf).2.2
      refine Nat.or_lt_two_pow (n := 6) h ?_
      exact Nat.pow_lt_pow_right (by omega) hk
    · exact h
/-- the bit of a letter -/
def bt (n x : Nat) : Bool := decide (n / 2 ^ x % 2 = 1)
theorem bt_eq (n x : Nat) : bt n x = n.testBit x := by rw [bt, Nat.testBit_eq_decide_div_mod_eq]
theorem bt_mem {l : List Int32} {x : Nat} : bt (flb l 0) x = true ↔ ∃ c ∈ l, fxI c = 1 ∧ kN c = x := by
  rw [bt_eq, flb_bit]
  simp
theorem nbit {n x : Nat} (hn : n < 64) (hx : x < 6) : (nI n >>> (nI x &&& 31)) &&& 1 = if bt n x then 1 else 0 := by
  have hd : n / 2 ^ x ≤ n := Nat.div_le_self _ _
  rw [nshr (by omega) (by omega), nand1 (by omega), bt]
  rcases (show n / 2 ^ x % 2 = 0 ∨ n / 2 ^ x % 2 = 1 by omega) with h | h <;> rw [h] <;> rfl
/-- the letters that stand -/
def std (l : List Int32) : List Nat := (List.range 6).filter (bt (flb l 0))
theorem std_ok (l : List Int32) : (std l).length ≤ 6 ∧ (std l).Pairwise (· < ·) ∧ (∀ y ∈ std l, y < 6) ∧ ∀ c ∈ l, fxI c = 1 → kN c ∈ std l := by
  refine ⟨?_, ?_, ?_, ?_⟩
  · have := List.length_filter_le (bt (flb l 0)) (List.range 6)
    rw [List.length_range] at this
    exact this
  · exact List.Pairwise.filter _ List.pairwise_lt_range
  · intro y hy
    exact List.mem_range.mp (List.mem_filter.mp hy).1
  · intro c hc hf
    exact List.mem_filter.mpr ⟨List.mem_range.mpr (fx_kN hf).2.2, bt_mem.mpr ⟨c, hc, hf, rfl⟩⟩
/-- the last letter; below 0: none -/
def lsv (n : Nat) : Nat → Int32
  | 0 => -1
  | x + 1 => if bt n x then nI x else lsv n x
theorem lsv_spec (n : Nat) : ∀ (k : Nat), (∀ x, x < k → bt n x = false) ∨ ∃ x, x < k ∧ lsv n k = nI x ∧ bt n x = true ∧ ∀ y, y < k → bt n y = true → y ≤ x
  | 0 => Or.inl (fun x hx => by omega)
  | k + 1 => by
    by_cases h : bt n k = true
    · exact Or.inr ⟨k, by omega, by rw [lsv, if_pos h], h, fun y hy _ => by omega⟩
    · have hf : bt n k = false := by simpa using h
      rcases lsv_spec n k with g | ⟨x, h1, h2, h3, h4⟩
      · refine Or.inl (fun x hx => ?_)
        by_cases e : x = k
        · rw [e]; exact hf
        · exact g x (by omega)
      · refine Or.inr ⟨x, by omega, by rw [lsv, if_neg h]; exact h2, h3, fun y hy hb => ?_⟩
        by_cases e : y = k
        · subst e; exact absurd hb h
        · exact h4 y (by omega) hb
/-- how many PAIRS are of a kind; 0: of any -/
def hmN (l : List Int32) (P : List (Nat × Nat)) (w : Int32) : Nat := (P.filter fun q => decide (w = 0 ∨ pkI (l.getD q.1 0) (l.getD q.2 0) = w)).length
section PB
variable {sc : List Int32} {X : pX} {B : pB} {Q : pQ} {L S N D C lf rt : List Int32} {sd tt cn : Int32}
theorem take_succ_getD {α : Type} {l : List α} {i : Nat} (d : α) (h : i < l.length) : l.take (i + 1) = l.take i ++ [l.getD i d] := by
  rw [List.take_succ_eq_append_getElem h, List.getD_eq_getElem?_getD, List.getElem?_eq_getElem h]
  rfl
theorem t_howMany_loop (hX : Cl sc X) (hB : 3 ≤ B.1) {P : List (Nat × Nat)} (hP : paI P lf rt) (hL : L.length = 40) (hp : ∀ q ∈ P, q.1 < 40 ∧ q.2 < 40) {w : Int32} (hq : Q (some (.int (nI (hmN L P w)))) (PaW L S N D C sd tt lf rt (nI P.length))) :
    ∀ (n i : Nat), i + n = P.length → X B 57 4 [some (.ref 0), some (.int w), some (.int (nI (hmN L (P.take i) w))), some (.int (nI i))] [] (PaW L S N D C sd tt lf rt (nI P.length)) Q := by
  obtain ⟨⟨l1, l2, l3⟩, l4⟩ := hP
  intro n
  induction n with
  | zero =>
    intro i hi
    have : i = P.length := by omega
    subst this
    rw [List.take_length]
    iterate 4 refine hX ?_
    refine And.intro (fun _ => ?_) (fun h => absurd (Int32.le_refl _) h)
    iterate 2 refine hX ?_
    exact hq
  | succ n ih =>
    intro i hi
    have hin : i < P.length := by omega
    have hmem := hp _ (getD_mem (d := (0, 0)) hin)
    have next := ih (i + 1) (by omega)
    have hz := take_succ_getD (0, 0) hin
    obtain ⟨e1, e2⟩ := l4 i hin
    have hle : hmN L (P.take i) w ≤ 20 := by
      have := List.length_filter_le (fun q => decide (w = 0 ∨ pkI (L.getD q.1 0) (L.getD q.2 0) = w)) (P.take i)
      rw [List.length_take] at this
      show ((P.take i).filter _).length ≤ 20
      omega
    have up : (w = 0 ∨ pkI (L.getD (P.getD i (0, 0)).1 0) (L.getD (P.getD i (0, 0)).2 0) = w) → X B 57 25 [some (.ref 0), some (.int w), some (.int (nI (hmN L (P.take i) w))), some (.int (nI i))] [] (PaW L S N D C sd tt lf rt (nI P.length)) Q := by
      intro hk
      iterate 3 refine hX ?_
      have e : nI (hmN L (P.take i) w) + 1 = nI (hmN L (P.take (i + 1)) w) := by
        rw [hmN, hmN, hz, List.filter_append, List.length_append, List.filter_cons_of_pos (by exact decide_eq_true hk)]
        exact (nI_succ _).symm
      rw [e, show nI i + 1 = nI (i + 1) from (nI_succ i).symm]
      exact next
    iterate 4 refine hX ?_
    refine And.intro (fun h => absurd ((nle (by omega) (by omega)).mp h) (by omega)) (fun _ => ?_)
    iterate 2 refine hX ?_
    refine And.intro (fun h => up (Or.inl h)) (fun h0 => ?_)
    iterate 3 refine hX ?_
    refine And.intro trivial (cP [0, 1, 2, 3, 4, 5, 6, 7, 8] [.ref 0, .int (nI i)] (PaW L S N D C sd tt lf rt (nI P.length)) (some (.int (pkI (L.getD (P.getD i (0, 0)).1 0) (L.getD (P.getD i (0, 0)).2 0)))) [.int (pkI (L.getD (P.getD i (0, 0)).1 0) (L.getD (P.getD i (0, 0)).2 0))] (by omega) rfl rfl rfl rfl (fun Q' hQ' => t_pkind hX (by show 2 ≤ B.1 - 1; omega) (by omega) l1 l2 hL e1 e2 hmem.1 hmem.2 hQ') ?_)
    iterate 2 refine hX ?_
    refine And.intro (fun h => up (Or.inr h)) (fun h => ?_)
    iterate 2 refine hX ?_
    have e : nI (hmN L (P.take i) w) = nI (hmN L (P.take (i + 1)) w) := by
      rw [hmN, hmN, hz, List.filter_append, List.length_append, List.filter_cons_of_neg (by rw [decide_eq_true_eq]; exact fun q => q.elim h0 h)]
      rfl
    rw [e, show nI i + 1 = nI (i + 1) from (nI_succ i).symm]
    exact next
theorem t_howMany (hX : Cl sc X) (hB : 3 ≤ B.1) {P : List (Nat × Nat)} (hP : paI P lf rt) (hL : L.length = 40) (hp : ∀ q ∈ P, q.1 < 40 ∧ q.2 < 40) {w : Int32} (hq : Q (some (.int (nI (hmN L P w)))) (PaW L S N D C sd tt lf rt (nI P.length))) : X B 57 0 [some (.ref 0), some (.int w), none, none] [] (PaW L S N D C sd tt lf rt (nI P.length)) Q := by
  iterate 4 refine hX ?_
  exact t_howMany_loop hX hB hP hL hp hq P.length 0 (by omega)
theorem t_lastFlex_loop (hX : Cl sc X) {b : Nat} (hb : b < 64) {a1 : Int32} (hq : Q (some (.int (lsv b 6))) (PaW L S N D C sd tt lf rt cn)) :
    ∀ (n x : Nat), x + n = 6 → X B 58 55 [some (.ref 0), some (.int a1), some (.int (nI b)), some (.int (lsv b x)), some (.int (nI x))] [] (PaW L S N D C sd tt lf rt cn) Q := by
  intro n
  induction n with
  | zero =>
    intro x hx
    have : x = 6 := by omega
    subst this
    iterate 3 refine hX ?_
    refine And.intro (fun _ => ?_) (fun h => absurd (by decide) h)
    iterate 2 refine hX ?_
    exact hq
  | succ n ih =>
    intro x hx
    have next := ih (x + 1) (by omega)
    iterate 3 refine hX ?_
    refine And.intro (fun h => absurd ((nle (a := 6) (by omega) (by omega)).mp h) (by omega)) (fun _ => ?_)
    iterate 6 refine hX ?_
    rw [nbit hb (by omega)]
    rw [lsv] at next
    cases hbx : bt b x with
    | true =>
      rw [hbx] at next
      refine And.intro (fun h => absurd h (show ¬ ((1 : Int32) = 0) by decide)) (fun _ => ?_)
      iterate 4 refine hX ?_
      rw [show nI x + 1 = nI (x + 1) from (nI_succ x).symm]
      exact next
    | false =>
      rw [hbx] at next
      refine And.intro (fun _ => ?_) (fun h => absurd rfl h)
      iterate 2 refine hX ?_
      rw [show nI x + 1 = nI (x + 1) from (nI_succ x).symm]
      exact next
theorem t_lastFlex (hX : Cl sc X) (hB : 3 ≤ B.1) {P : List (Nat × Nat)} (hP : paI P lf rt) (hL : L.length = 40) {l : List Int32} (hl : l.length ≤ 40) (hLl : L.take l.length = l) (hm : mOK l N D C) {i : Nat} (hi : i < P.length) (hok : pOK l (P.getD i (0, 0))) (hq : Q (some (.int (lsv (flb (tmL l (P.getD i (0, 0)).1) 0 ||| flb (tmL l (P.getD i (0, 0)).2) 0) 6))) (PaW L S N D C sd tt lf rt cn)) : X B 58 0 [some (.ref 0), some (.int (nI i)), none, none, none] [] (PaW L S N D C sd tt lf rt cn) Q := by
  obtain ⟨⟨l1, l2, l3⟩, l4⟩ := hP
  obtain ⟨e1, e2⟩ := l4 i hi
  obtain ⟨x, xr, y, yr, d1, d2, d3, d4, d5⟩ := hok
  rcases hpq : P.getD i (0, 0) with ⟨a, b⟩
  rw [hpq] at e1 e2 d1 d3 d5 hq
  dsimp only at e1 e2 d1 d3 d5 hq
  rw [tmL_eq d1 d2, tmL_eq d3 d4] at hq
  have k1 := congrArg List.length d1
  have k3 := congrArg List.length d3
  have px := okF_pos d2 (by omega)
  have py := okF_pos d4 (by omega)
  rw [List.length_drop, List.length_append] at k1 k3
  have n1 : N.getD a 0 = nI x.length := by rw [(hm.2 a (by omega)).1, d1, okF_tlen x xr 1 d2]
  have n2 : N.getD b 0 = nI y.length := by rw [(hm.2 b (by omega)).1, d3, okF_tlen y yr 1 d4]
  have f1 : ((L.drop a).take x.length).foldl flS 0 = nI (flb x 0) := by
    have : (L.drop a).take x.length = x := by
      have e := congrArg (fun z => (z.drop a).take x.length) hLl
      rw [d1, List.take_left, List.drop_take, List.take_take, Nat.min_eq_left (by omega)] at e
      exact e
    rw [this]
    exact flS_eq x 0
  have f2 : ((L.drop b).take y.length).foldl flS 0 = nI (flb y 0) := by
    have : (L.drop b).take y.length = y := by
      have e := congrArg (fun z => (z.drop b).take y.length) hLl
      rw [d3, List.take_left, List.drop_take, List.take_take, Nat.min_eq_left (by omega)] at e
      exact e
    rw [this]
    exact flS_eq y 0
  iterate 5 refine hX ?_
  refine And.intro trivial (cP [0, 1, 2, 3, 4, 5, 6, 7, 8] [.ref 0, .int (nI i)] (PaW L S N D C sd tt lf rt cn) (some (.int (lf.getD i 0))) [.int (lf.getD i 0), .ref 1] (by omega) rfl rfl rfl rfl (fun Q' hQ' => t_left hX (by omega) l1 hQ') ?_)
  rw [e1]
  iterate 5 refine hX ?_
  refine And.intro trivial (cP [0, 1, 2, 3, 4, 5, 6, 7, 8] [.ref 0, .int (nI i)] (PaW L S N D C sd tt lf rt cn) (some (.int (lf.getD i 0))) [.int (lf.getD i 0), .ref 1, .int (nI a), .ref 1] (by omega) rfl rfl rfl rfl (fun Q' hQ' => t_left hX (by omega) l1 hQ') ?_)
  rw [e1]
  refine hX (And.intro trivial (cP [1, 2, 3, 4, 5, 6] [.ref 0, .int (nI a)] (EqW L S N D C sd tt) (some (.int (N.getD a 0))) [.int (N.getD a 0), .int (nI a), .ref 1] (by omega) rfl rfl rfl rfl (fun Q' hQ' => t_nodesAt hX (by omega) hm.1.1 hQ') ?_))
  rw [n1]
  refine hX (And.intro trivial (cP [1, 2, 3, 4, 5, 6] [.ref 0, .int (nI a), .int (nI x.length)] (EqW L S N D C sd tt) (some (.int (nI (flb x 0)))) [.int (nI (flb x 0))] (by omega) rfl rfl rfl rfl (fun Q' hQ' => t_flexIn hX (by show 2 ≤ B.1 - 1; omega) hL (by omega) (by rw [f1]; exact hQ')) ?_))
  iterate 5 refine hX ?_
  refine And.intro trivial (cP [0, 1, 2, 3, 4, 5, 6, 7, 8] [.ref 0, .int (nI i)] (PaW L S N D C sd tt lf rt cn) (some (.int (rt.getD i 0))) [.int (rt.getD i 0), .ref 1, .int (nI (flb x 0))] (by omega) rfl rfl rfl rfl (fun Q' hQ' => t_right hX (by omega) l2 hQ') ?_)
  rw [e2]
  iterate 5 refine hX ?_
  refine And.intro trivial (cP [0, 1, 2, 3, 4, 5, 6, 7, 8] [.ref 0, .int (nI i)] (PaW L S N D C sd tt lf rt cn) (some (.int (rt.getD i 0))) [.int (rt.getD i 0), .ref 1, .int (nI b), .ref 1, .int (nI (flb x 0))] (by omega) rfl rfl rfl rfl (fun Q' hQ' => t_right hX (by omega) l2 hQ') ?_)
  rw [e2]
  refine hX (And.intro trivial (cP [1, 2, 3, 4, 5, 6] [.ref 0, .int (nI b)] (EqW L S N D C sd tt) (some (.int (N.getD b 0))) [.int (N.getD b 0), .int (nI b), .ref 1, .int (nI (flb x 0))] (by omega) rfl rfl rfl rfl (fun Q' hQ' => t_nodesAt hX (by omega) hm.1.1 hQ') ?_))
  rw [n2]
  refine hX (And.intro trivial (cP [1, 2, 3, 4, 5, 6] [.ref 0, .int (nI b), .int (nI y.length)] (EqW L S N D C sd tt) (some (.int (nI (flb y 0)))) [.int (nI (flb y 0)), .int (nI (flb x 0))] (by omega) rfl rfl rfl rfl (fun Q' hQ' => t_flexIn hX (by show 2 ≤ B.1 - 1; omega) hL (by omega) (by rw [f2]; exact hQ')) ?_))
  iterate 2 refine hX ?_
  rw [nor]
  iterate 4 refine hX ?_
  refine t_lastFlex_loop hX ?_ hq 6 0 rfl
  exact Nat.or_lt_two_pow (n := 6) (flb_lt x 0 (by omega)) (flb_lt y 0 (by omega))
end PB
