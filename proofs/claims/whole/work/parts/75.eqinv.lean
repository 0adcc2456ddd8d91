/-! Equations: what an object holds. -/
def pre (E : List (List Int32)) (k : Nat) : Nat := ((E.take k).flatten).length
def EqInv (E : List (List Int32)) (L S : List Int32) : Prop := (L.length = 40 ∧ S.length = 9 ∧ E.length ≤ 8 ∧ E.flatten.length ≤ 40) ∧ L.take E.flatten.length = E.flatten ∧ (∀ k, k ≤ E.length → S.getD k 0 = nI (pre E k)) ∧ ∀ t ∈ E, okF t 1 = true
theorem okF_flat : ∀ (E : List (List Int32)), (∀ t ∈ E, okF t 1 = true) → okF E.flatten E.length = true
  | [], _ => rfl
  | t :: E, h => by
    rw [List.flatten_cons, List.length_cons, Nat.add_comm]
    exact okF_app t E.flatten 1 E.length (h t List.mem_cons_self) (okF_flat E (fun u hu => h u (List.mem_cons_of_mem _ hu)))
theorem EqInv.ok {E : List (List Int32)} {L S : List Int32} (h : EqInv E L S) : okF (L.take E.flatten.length) E.length = true := by
  rw [h.2.1]; exact okF_flat E h.2.2.2
theorem pCopy_full {xs ys : List Int32} (h : xs.length = ys.length) : pCopy xs ys 0 0 xs.length = xs := by
  rw [pCopy, List.take_zero, List.drop_zero, List.take_length, Nat.zero_add, h, List.drop_length]
  simp
theorem isFlex_kd {c : Int32} (h : fxI c = 1) : kdI c = c - 85 := by
  have hc : 85 ≤ c ∧ c ≤ 90 := by
    unfold fxI at h
    split at h
    · assumption
    · cases h
  unfold kdI
  rw [if_neg (fun q => by rw [q] at hc; exact absurd hc.2 (by decide)), if_neg (fun q => by rw [q] at hc; exact absurd hc.2 (by decide)), if_neg (fun q => by rw [q] at hc; exact absurd hc.2 (by decide)), if_neg (fun q => by rw [q] at hc; exact absurd hc.2 (by decide)), if_pos hc]
theorem fxI_or (c : Int32) : fxI c = 0 ∨ fxI c = 1 := by
  unfold fxI
  split
  · exact Or.inr rfl
  · exact Or.inl rfl
/-- the letters U .. Z of a row, by bits -/
def flS (s c : Int32) : Int32 := if fxI c = 1 then s ||| ((1 : Int32) <<< ((c - 85) &&& 31)) else s
section EQ3
variable {sc : List Int32} {X : pX} {B : pB} {Q : pQ} {L S N D C : List Int32} {sd tt : Int32}
theorem t_isSide (hX : Cl sc X) {h : pH} {e : Int32} (hq : Q (some (.int (if e = 0 ∨ e = 1 then 1 else 0))) h) : X B 113 0 [some (.int e)] [] h Q := by
  repeat refine hX ?_
  refine And.intro (fun h1 => ?_) (fun h1 => ?_)
  · rw [if_pos (Or.inl h1)] at hq
    repeat refine hX ?_
    exact And.intro (Or.inr rfl) hq
  · repeat refine hX ?_
    refine And.intro (fun h2 => ?_) (fun h2 => ?_)
    · rw [if_pos (Or.inr h2)] at hq
      repeat refine hX ?_
      exact And.intro (Or.inr rfl) hq
    · rw [if_neg (fun q => q.elim h1 h2)] at hq
      repeat refine hX ?_
      exact And.intro (Or.inl rfl) hq
theorem hsI_in {i n : Nat} (h : i < n) (hn : n < 2147483648) : hsI (nI i) n = 1 := if_pos ⟨nneg (by omega), (nlt (by omega) hn).mpr h⟩
theorem hsI_ex {e : Int32} {n : Nat} (hn : n < 2147483648) : (hsI e n = 0 ∧ ∀ i, i < n → ¬ e = nI i) ∨ (hsI e n = 1 ∧ ∃ i, i < n ∧ e = nI i) := by
  unfold hsI
  by_cases h : ¬ e < 0 ∧ e < nI n
  · right
    refine ⟨if_pos h, e.toNatClampNeg, ?_, (ex_nI h.1).1⟩
    have h2 := h.2
    rw [(ex_nI h.1).1] at h2
    exact (nlt (ex_nI h.1).2 hn).mp h2
  · left
    refine ⟨if_neg h, fun i hi q => h ?_⟩
    subst q
    exact ⟨nneg (by omega), (nlt (by omega) hn).mpr hi⟩
theorem t_start (hX : Cl sc X) (hB : 2 ≤ B.1) {k i j : Nat} (hk : k ≤ 8) (hi : i < k / 2) (hj : j < 2) (hS : S.length = 9) (hq : Q (some (.int (S.getD (2 * i + j) 0))) (EqW L S N D C (nI k) tt)) : X B 22 0 [some (.ref 0), some (.int (nI i)), some (.int (nI j))] [] (EqW L S N D C (nI k) tt) Q := by
  repeat refine hX ?_
  refine And.intro trivial (cP [0, 1, 2, 3, 4, 5] [.ref 0, .int (nI i)] (EqW L S N D C (nI k) tt) (some (.int (hsI (nI i) (k / 2)))) [.int (hsI (nI i) (k / 2))] (by omega) rfl rfl rfl rfl (fun Q' hQ' => t_has hX (by show 1 ≤ B.1 - 1; omega) (by omega) hQ') ?_)
  rw [hsI_in hi (by omega)]
  refine hX (And.intro (fun h1 => absurd h1 (by decide)) (fun _ => ?_))
  have hj2 : (if nI j = 0 ∨ nI j = 1 then (1 : Int32) else 0) = 1 := if_pos (by
    rcases (show j = 0 ∨ j = 1 by omega) with rfl | rfl
    · exact Or.inl rfl
    · exact Or.inr rfl)
  repeat refine hX ?_
  refine (cP [] [.int (nI j)] [] (some (.int (if nI j = 0 ∨ nI j = 1 then (1 : Int32) else 0))) [.int (if nI j = 0 ∨ nI j = 1 then (1 : Int32) else 0)] (by omega) rfl rfl rfl rfl (fun Q' hQ' => t_isSide hX hQ') ?_)
  rw [hj2]
  refine hX (And.intro (fun h1 => absurd h1 (by decide)) (fun _ => ?_))
  repeat refine hX ?_
  rw [show (2 : Int32) * nI i + nI j = nI (2 * i + j) by rw [show (2 : Int32) = nI 2 from rfl, nmul, nadd]]
  refine And.intro (vp_in_nI (by omega) (by omega)) ?_
  repeat refine hX ?_
  show Q (some (.int (S.getD (nI (2 * i + j)).toNatClampNeg 0))) _
  rw [nI_clamp (by omega)]
  exact hq
theorem t_append (hX : Cl sc X) {k t : Nat} (hk : k < 2147483648) (ht : t ≤ 40) (hL : L.length = 40) {c : Int32} (hq0 : (8 ≤ k ∨ 40 ≤ t) → Q (some (.int 0)) (EqW L S N D C (nI k) (nI t))) (hq1 : k < 8 → t < 40 → Q (some (.int 1)) (EqW (L.set t c) S N D C (nI k) (nI (t + 1)))) : X B 16 0 [some (.ref 0), some (.int c)] [] (EqW L S N D C (nI k) (nI t)) Q := by
  repeat refine hX ?_
  refine And.intro (fun h1 => ?_) (fun h1 => ?_)
  · repeat refine hX ?_
    exact And.intro (Or.inl rfl) (hq0 (Or.inl ((nle (a := 8) (by omega) hk).mp h1)))
  · have hk8 : k < 8 := Nat.not_le.mp fun q => h1 ((nle (a := 8) (by omega) hk).mpr q)
    repeat refine hX ?_
    refine And.intro (fun h2 => ?_) (fun h2 => ?_)
    · have ht4 : t < 40 := (nlt (b := 40) (by omega) (by omega)).mp h2
      repeat refine hX ?_
      refine And.intro (vp_in_nI (by omega) (by omega)) ?_
      rw [nI_clamp (by omega)]
      repeat refine hX ?_
      refine And.intro (Or.inr rfl) ?_
      have := hq1 hk8 ht4
      rw [nI_succ] at this
      exact this
    · repeat refine hX ?_
      exact And.intro (Or.inl rfl) (hq0 (Or.inr (Nat.not_lt.mp fun q => h2 ((nlt (b := 40) (by omega) (by omega)).mpr q))))
theorem t_endSide (hX : Cl sc X) {k : Nat} (hk : k < 8) (hS : S.length = 9) (hq : Q none (EqW L (S.set (k + 1) tt) N D C (nI (k + 1)) tt)) : X B 17 0 [some (.ref 0)] [] (EqW L S N D C (nI k) tt) Q := by
  repeat refine hX ?_
  refine And.intro (fun h1 => absurd h1 (fun q => by have := (nle (a := 8) (by omega) (by omega)).mp q; omega)) (fun _ => ?_)
  repeat refine hX ?_
  rw [show nI k + 1 = nI (k + 1) from (nI_succ k).symm]
  refine And.intro (vp_in_nI (by omega) (by omega)) ?_
  rw [nI_clamp (by omega)]
  repeat refine hX ?_
  exact hq
theorem t_flexIn_loop (hX : Cl sc X) (hB : 2 ≤ B.1) (hL : L.length = 40) {a m : Nat} (ham : a + m ≤ 40) : ∀ (r j : Nat), j + r = m → ∀ (s : Int32), Q (some (.int (((L.drop (a + j)).take r).foldl flS s))) (EqW L S N D C sd tt) → X B 27 5 [some (.ref 0), some (.int (nI a)), some (.int (nI m)), some (.int s), some (.int (nI (a + j)))] [] (EqW L S N D C sd tt) Q := by
  intro r
  induction r with
  | zero =>
    intro j hj s hq
    repeat refine hX ?_
    rw [nadd]
    refine And.intro (fun _ => ?_) (fun h1 => absurd ((nle (by omega) (by omega)).mpr (by omega)) h1)
    repeat refine hX ?_
    simp only [List.take_zero, List.foldl_nil] at hq
    exact hq
  | succ r ih =>
    intro j hj s hq
    rw [drop_cons (by omega), List.take_succ_cons, List.foldl_cons] at hq
    repeat refine hX ?_
    rw [nadd]
    refine And.intro (fun h1 => absurd ((nle (by omega) (by omega)).mp h1) (by omega)) (fun _ => ?_)
    repeat refine hX ?_
    refine And.intro trivial (cP [0, 1, 2, 3, 4, 5] [.ref 0, .int (nI (a + j))] (EqW L S N D C sd tt) (some (.int (L.getD (a + j) 0))) [.int (L.getD (a + j) 0)] (by omega) rfl rfl rfl rfl (fun Q' hQ' => t_letterAt hX (by omega) hL hQ') ?_)
    generalize hc : L.getD (a + j) 0 = c at hq ⊢
    refine hX (cP [] [.int c] [] (some (.int (fxI c))) [.int (fxI c)] (by omega) rfl rfl rfl rfl (fun Q' hQ' => t_isFlex hX hQ') ?_)
    rcases fxI_or c with hf | hf
    · rw [hf]
      refine hX (And.intro (fun _ => ?_) (fun h1 => absurd rfl h1))
      rw [flS, if_neg (by rw [hf]; decide)] at hq
      iterate 2 refine hX ?_
      rw [show nI (a + j) + 1 = nI (a + (j + 1)) from (nI_succ (a + j)).symm]
      exact ih (j + 1) (by omega) s hq
    · rw [hf]
      refine hX (And.intro (fun h1 => absurd h1 (by decide)) (fun _ => ?_))
      rw [flS, if_pos hf] at hq
      repeat refine hX ?_
      refine And.intro trivial (cP [0, 1, 2, 3, 4, 5] [.ref 0, .int (nI (a + j))] (EqW L S N D C sd tt) (some (.int (L.getD (a + j) 0))) [.int (L.getD (a + j) 0), .int 1, .int s] (by omega) rfl rfl rfl rfl (fun Q' hQ' => t_letterAt hX (by omega) hL hQ') ?_)
      rw [hc]
      refine hX (cP [] [.int c] [] (some (.int (kdI c))) [.int (kdI c), .int 1, .int s] (by omega) rfl rfl rfl rfl (fun Q' hQ' => t_kind hX (by show 1 ≤ B.1 - 1; omega) hQ') ?_)
      rw [isFlex_kd hf]
      iterate 5 refine hX ?_
      rw [show nI (a + j) + 1 = nI (a + (j + 1)) from (nI_succ (a + j)).symm]
      exact ih (j + 1) (by omega) _ hq
theorem t_flexIn (hX : Cl sc X) (hB : 2 ≤ B.1) (hL : L.length = 40) {a m : Nat} (ham : a + m ≤ 40) (hq : Q (some (.int (((L.drop a).take m).foldl flS 0))) (EqW L S N D C sd tt)) : X B 27 0 [some (.ref 0), some (.int (nI a)), some (.int (nI m)), none, none] [] (EqW L S N D C sd tt) Q := by
  iterate 4 refine hX ?_
  exact t_flexIn_loop hX hB hL ham m 0 (by omega) 0 hq
end EQ3
def Eq2W (L S N D C : List Int32) (sd tt : Int32) (L' S' N' D' C' : List Int32) (sd' tt' : Int32) : pH := [.inr (2, [.ref 1, .ref 2, .ref 3, .ref 4, .ref 5, .int sd, .int tt]), .inl L, .inl S, .inl N, .inl D, .inl C, .inr (2, [.ref 7, .ref 8, .ref 9, .ref 10, .ref 11, .int sd', .int tt']), .inl L', .inl S', .inl N', .inl D', .inl C']
theorem t_copyFrom {sc : List Int32} {X : pX} {B : pB} {Q : pQ} {L S N D C : List Int32} {sd tt : Int32} {L' S' N' D' C' : List Int32} (hX : Cl sc X) (hB : 2 ≤ B.1) (hL : L.length = 40 ∧ S.length = 9) (hN : N.length = 40 ∧ D.length = 40 ∧ C.length = 40) {E : List (List Int32)} (hE : EqInv E L' S') (hq : ∀ N D C, mOK E.flatten N D C → Q none (Eq2W L' S' N D C (nI E.length) (nI E.flatten.length) L' S' N' D' C' (nI E.length) (nI E.flatten.length))) : X B 28 0 [some (.ref 0), some (.ref 6)] [] (Eq2W L S N D C sd tt L' S' N' D' C' (nI E.length) (nI E.flatten.length)) Q := by
  obtain ⟨⟨g1, g2, g3, g4⟩, g5, g6, g7⟩ := id hE
  repeat refine hX ?_
  refine And.intro ⟨⟨by omega, Nat.le_of_ble_eq_true rfl⟩, ⟨by decide, by decide, by decide⟩, by rw [g1]; decide, by rw [hL.1]; decide⟩ ?_
  rw [show pCopy L' L (Int32.toNatClampNeg 0) (Int32.toNatClampNeg 0) (Int32.toNatClampNeg 40) = L' by
    have := pCopy_full (xs := L') (ys := L) (by omega)
    rw [g1] at this
    exact this]
  repeat refine hX ?_
  refine And.intro ⟨⟨by omega, Nat.le_of_ble_eq_true rfl⟩, ⟨by decide, by decide, by decide⟩, by rw [g2]; decide, by rw [hL.2]; decide⟩ ?_
  rw [show pCopy S' S (Int32.toNatClampNeg 0) (Int32.toNatClampNeg 0) (Int32.toNatClampNeg 9) = S' by
    have := pCopy_full (xs := S') (ys := S) (by omega)
    rw [g2] at this
    exact this]
  repeat refine hX ?_
  refine And.intro trivial (cM [0, 1, 2, 3, 4, 5] [.ref 0] (EqW L' S' N D C (nI E.length) (nI E.flatten.length)) (fun u : List Int32 × List Int32 × List Int32 => mOK E.flatten u.1 u.2.1 u.2.2) (fun _ => none) (fun u => EqW L' S' u.1 u.2.1 u.2.2 (nI E.length) (nI E.flatten.length)) (fun u => Eq2W L' S' u.1 u.2.1 u.2.2 (nI E.length) (nI E.flatten.length) L' S' N' D' C' (nI E.length) (nI E.flatten.length)) (fun _ => []) (by omega) rfl rfl rfl (fun _ => rfl) (fun _ => rfl) (fun _ => rfl) (fun Q' hQ' => t_measure hX (by show 1 ≤ B.1 - 1; omega) g4 g1 hN hE.ok (fun N D C hm => hQ' (N, D, C) (by rw [g5] at hm; exact hm))) (fun u hu => ?_))
  repeat refine hX ?_
  exact hq u.1 u.2.1 u.2.2 hu
