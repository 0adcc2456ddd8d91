/-! THE TEXT, read. -/
def parse : List Int32 → Nat → pS → Nat ⊕ List (List Int32)
  | [], i, σ => if σ.2.2.2 = 0 then .inr σ.1 else .inl i
  | c :: r, i, σ => if c = 32 then parse r (i + 1) σ else match pst σ c with
    | none => .inl i
    | some σ' => parse r (i + 1) σ'
section TX2
variable {sc : List Int32} {X : pX} {B : pB} {Q : pQ} {by' pl L S N D C : List Int32} {ln dp aw sd tt : Int32}
theorem t_accepts (hX : Cl sc X) (hB : 3 ≤ B.1) {σ : pS} {c : Int32} (hI : pInv σ) (hR : TxR σ pl dp aw L S sd tt) (hq : ∀ w : Int32 × TxU, TxP (pst σ c) w → Q (some (.int w.1)) (TxO by' ln N D C w.2)) : X B 77 0 [some (.ref 0), some (.int c), some (.ref 3)] [] (TxW by' pl ln dp aw L S N D C sd tt) Q := by
  obtain ⟨E, cur, s, a⟩ := σ
  obtain ⟨⟨i1, i2, i3, i4⟩, i5, i6, i7, i8, i9, i10⟩ := id hI
  obtain ⟨⟨rfl, rfl, rfl, rfl⟩, r1, r2, r3, r4, r5⟩ := id hR
  have hq2 : ∀ w : Int32 × TxU, TxP (pst (E, cur, s, a) c) w → (w.1 = 0 ∨ w.1 = 1) ∧ Q (some (.int w.1)) (TxO by' ln N D C w.2) := by
    intro w hw
    refine ⟨?_, hq w hw⟩
    cases ho : pst (E, cur, s, a) c with
    | none => rw [ho] at hw; exact Or.inl hw.1
    | some o => rw [ho] at hw; exact Or.inr hw.1
  have letter : a ≤ 1 → X B 77 32 [some (.ref 0), some (.int c), some (.ref 3)] [] (TxW by' pl ln (nI s.length) (nI a) L S N D C (nI E.length) (nI (E.flatten.length + cur.length))) Q := by
    intro ha
    repeat refine hX ?_
    refine And.intro trivial (cM [0, 1, 2, 3, 4, 5, 6, 7, 8] [.ref 0, .int c, .ref 3] (TxW by' pl ln (nI s.length) (nI a) L S N D C (nI E.length) (nI (E.flatten.length + cur.length))) (fun w : Int32 × TxU => TxP (pst (E, cur, s, a) c) w) (fun w => some (.int w.1)) (fun w => TxO by' ln N D C w.2) (fun w => TxO by' ln N D C w.2) (fun w => [.int w.1]) (by omega) rfl rfl rfl (fun _ => rfl) (fun _ => rfl) (fun _ => rfl) (fun Q' hQ' => t_acceptsLetter hX (by show 2 ≤ B.1 - 1; omega) ha hI hR hQ') (fun w hw => ?_))
    repeat refine hX ?_
    exact hq2 w hw
  rcases (show a = 0 ∨ a = 1 ∨ a = 2 ∨ a = 3 by omega) with rfl | rfl | rfl | rfl
  · refine hX (hX (hX (And.intro (fun _ => letter (by omega)) (fun h => absurd rfl h))))
  · refine hX (hX (hX (And.intro (fun h => absurd h (by decide)) (fun _ => And.intro (fun _ => letter (by omega)) (fun h => absurd rfl h)))))
  · refine hX (hX (hX (And.intro (fun h => absurd h (by decide)) (fun _ => And.intro (fun h => absurd h (by decide)) (fun _ => And.intro (fun _ => ?_) (fun h => absurd rfl h))))))
    have e2 : pst (E, cur, s, 2) c = if c = 40 then some (E, cur, s, 1) else none := by simp [pst]
    rw [e2] at hq2
    repeat refine hX ?_
    refine And.intro (fun h => ?_) (fun h => ?_)
    · rw [if_pos h] at hq2
      repeat refine hX ?_
      exact hq2 (1, pl, _, _, L, S, _, _) ⟨rfl, ⟨rfl, rfl, rfl, rfl⟩, r1, r2, r3, r4, r5⟩
    · rw [if_neg h] at hq2
      repeat refine hX ?_
      exact hq2 (0, pl, _, _, L, S, _, _) ⟨rfl, hR.k⟩
  · refine hX (hX (hX (And.intro (fun h => absurd h (by decide)) (fun _ => And.intro (fun h => absurd h (by decide)) (fun _ => And.intro (fun h => absurd h (by decide)) (fun _ => ?_))))))
    cases s with
    | nil =>
      repeat refine hX ?_
      refine And.intro (fun _ => ?_) (fun h => absurd (by decide) h)
      repeat refine hX ?_
      refine And.intro trivial (cM [0, 1, 2, 3, 4, 5, 6, 7, 8] [.ref 0, .int c, .ref 3] (TxW by' pl ln (nI ([] : List Nat).length) (nI 3) L S N D C (nI E.length) (nI (E.flatten.length + cur.length))) (fun w : Int32 × TxU => TxP (pst (E, cur, [], 3) c) w) (fun w => some (.int w.1)) (fun w => TxO by' ln N D C w.2) (fun w => TxO by' ln N D C w.2) (fun w => [.int w.1]) (by omega) rfl rfl rfl (fun _ => rfl) (fun _ => rfl) (fun _ => rfl) (fun Q' hQ' => t_acceptsOutside hX (by show 1 ≤ B.1 - 1; omega) hI hR hQ') (fun w hw => ?_))
      repeat refine hX ?_
      exact hq2 w hw
    | cons p s =>
      have hsl : (p :: s).length ≤ 40 := r1.2.1
      repeat refine hX ?_
      refine And.intro (fun h => absurd ((nle (b := 0) (by omega) (by omega)).mp h) (by simp)) (fun _ => ?_)
      repeat refine hX ?_
      refine And.intro trivial (cM [0, 1, 2, 3, 4, 5, 6, 7, 8] [.ref 0, .int c] (TxW by' pl ln (nI (p :: s).length) (nI 3) L S N D C (nI E.length) (nI (E.flatten.length + cur.length))) (fun w : Int32 × TxU => TxP (pst (E, cur, p :: s, 3) c) w) (fun w => some (.int w.1)) (fun w => TxO by' ln N D C w.2) (fun w => TxO by' ln N D C w.2) (fun w => [.int w.1]) (by omega) rfl rfl rfl (fun _ => rfl) (fun _ => rfl) (fun _ => rfl) (fun Q' hQ' => t_acceptsInside hX (by simp) hI hR hQ') (fun w hw => ?_))
      repeat refine hX ?_
      exact hq2 w hw
/-- the outcome of reading -/
def TxE (o : Nat ⊕ List (List Int32)) (w : Int32 × TxU) : Prop := TxK w.2.1 w.2.2.2.2.1 w.2.2.2.2.2.1 ∧ match o with
  | .inl i => w.1 = nI i
  | .inr E => w.1 = -1 ∧ EqInv E w.2.2.2.2.1 w.2.2.2.2.2.1 ∧ E.length % 2 = 0 ∧ w.2.2.2.2.2.2.1 = nI E.length ∧ w.2.2.2.2.2.2.2 = nI E.flatten.length
theorem t_readInto_loop (hX : Cl sc X) (hB : 4 ≤ B.1) {n : Nat} (hn : n ≤ 120) (hby : by'.length = 120) :
    ∀ (r : List Int32) (i : Nat), (by'.take n).drop i = r → i ≤ n → ∀ (σ : pS) (pl : List Int32) (dp aw : Int32) (L S : List Int32) (sd tt : Int32), pInv σ → TxR σ pl dp aw L S sd tt → (∀ w : Int32 × TxU, TxE (parse r i σ) w → Q (some (.int w.1)) (TxO by' (nI n) N D C w.2)) → X B 76 16 [some (.ref 0), some (.ref 3), some (.int (nI i))] [] (TxW by' pl (nI n) dp aw L S N D C sd tt) Q := by
  have hlt : (by'.take n).length = n := by rw [List.length_take]; omega
  intro r
  induction r with
  | nil =>
    intro i hr hi σ pl dp aw L S sd tt hI hR hq
    have hin : i = n := by
      have := congrArg List.length hr
      rw [List.length_drop, hlt] at this
      simp at this
      omega
    subst hin
    obtain ⟨E, cur, s, a⟩ := σ
    obtain ⟨⟨i1, i2, i3, i4⟩, i5, i6, i7, i8, i9, i10⟩ := id hI
    obtain ⟨⟨rfl, rfl, rfl, rfl⟩, r1, r2, r3, r4, r5⟩ := id hR
    repeat refine hX ?_
    refine And.intro (fun _ => ?_) (fun h => absurd (Int32.le_refl _) h)
    repeat refine hX ?_
    rw [parse] at hq
    by_cases ha : a = 0
    · subst ha
      obtain ⟨rfl, rfl, hev⟩ := i10 rfl
      rw [if_pos rfl] at hq
      refine And.intro (fun _ => ?_) (fun h => absurd rfl h)
      repeat refine hX ?_
      refine hq (-1, pl, _, _, L, S, _, _) ⟨hR.k, rfl, ⟨⟨r2, r3, i1, i2⟩, by rw [List.append_nil] at r4; exact r4, r5, i5⟩, hev, rfl, rfl⟩
    · rw [if_neg ha] at hq
      refine And.intro (fun h => absurd ((neq (b := 0) (by omega) (by omega)).mp h) ha) (fun _ => ?_)
      repeat refine hX ?_
      exact hq (nI i, pl, _, _, L, S, _, _) ⟨hR.k, rfl⟩
  | cons c r ih =>
    intro i hr hi σ pl dp aw L S sd tt hI hR hq
    have hin : i < n := by
      have := congrArg List.length hr
      rw [List.length_drop, hlt, List.length_cons] at this
      omega
    rw [drop_cons (by omega), List.cons.injEq] at hr
    obtain ⟨hc, hr⟩ := hr
    rw [getD_take hin] at hc
    repeat refine hX ?_
    refine And.intro (fun h => absurd ((nle (by omega) (by omega)).mp h) (by omega)) (fun _ => ?_)
    repeat refine hX ?_
    refine And.intro (fun h => absurd ((nle (a := 120) (by omega) (by omega)).mp h) (by omega)) (fun _ => ?_)
    repeat refine hX ?_
    refine And.intro (vp_in_nI (by omega) (by omega)) ?_
    rw [nI_clamp (by omega), hc]
    repeat refine hX ?_
    rw [parse] at hq
    refine And.intro (fun h => ?_) (fun h => ?_)
    · rw [if_pos h] at hq
      iterate 2 refine hX ?_
      rw [show nI i + 1 = nI (i + 1) from (nI_succ i).symm]
      exact ih (i + 1) hr (by omega) σ pl dp aw L S sd tt hI hR hq
    · rw [if_neg h] at hq
      repeat refine hX ?_
      refine And.intro (vp_in_nI (by omega) (by omega)) ?_
      rw [nI_clamp (by omega), hc]
      repeat refine hX ?_
      refine And.intro trivial (cM [0, 1, 2, 3, 4, 5, 6, 7, 8] [.ref 0, .int c, .ref 3] (TxW by' pl (nI n) dp aw L S N D C sd tt) (fun w : Int32 × TxU => TxP (pst σ c) w) (fun w => some (.int w.1)) (fun w => TxO by' (nI n) N D C w.2) (fun w => TxO by' (nI n) N D C w.2) (fun w => [.int w.1]) (by omega) rfl rfl rfl (fun _ => rfl) (fun _ => rfl) (fun _ => rfl) (fun Q' hQ' => t_accepts hX (by show 3 ≤ B.1 - 1; omega) hI hR hQ') (fun w hw => ?_))
      cases ho : pst σ c with
      | none =>
        rw [ho] at hw hq
        obtain ⟨hw1, hw2⟩ := hw
        rw [hw1]
        refine hX (And.intro (fun _ => ?_) (fun h => absurd rfl h))
        repeat refine hX ?_
        exact hq (nI i, w.2) ⟨hw2, rfl⟩
      | some σ' =>
        rw [ho] at hw hq
        obtain ⟨hw1, hw2⟩ := hw
        rw [hw1]
        refine hX (And.intro (fun h => absurd h (by decide)) (fun _ => ?_))
        iterate 2 refine hX ?_
        rw [show nI i + 1 = nI (i + 1) from (nI_succ i).symm]
        exact ih (i + 1) hr (by omega) σ' _ _ _ _ _ _ _ (pInv_step hI ho) hw2 hq
theorem t_readInto (hX : Cl sc X) (hB : 4 ≤ B.1) {n : Nat} (hn : n ≤ 120) (hby : by'.length = 120) (hk : TxK pl L S) (hq : ∀ w : Int32 × TxU, TxE (parse (by'.take n) 0 ([], [], [], 0)) w → Q (some (.int w.1)) (TxO by' (nI n) N D C w.2)) : X B 76 0 [some (.ref 0), some (.ref 3), none] [] (TxW by' pl (nI n) dp aw L S N D C sd tt) Q := by
  repeat refine hX ?_
  refine And.intro trivial (cD [3, 4, 5, 6, 7, 8] [.ref 0] (EqW L S N D C sd tt) none (EqW L S N D C 0 0) (TxW by' pl (nI n) dp aw L S N D C 0 0) [] (by omega) rfl rfl rfl rfl rfl rfl (fun Q' hQ' => t_erase hX hQ') ?_)
  iterate 8 refine hX ?_
  refine t_readInto_loop hX hB hn hby (by'.take n) 0 rfl (by omega) ([], [], [], 0) pl 0 0 L S 0 0 ?_ ?_ hq
  · exact ⟨⟨by simp, by simp, by simp, by omega⟩, fun t ht => by simp at ht, fun p hp => by simp at hp, fun r hr => hr, fun h => by simp at h, fun h => by omega, fun _ => ⟨rfl, rfl, rfl⟩⟩
  · exact ⟨⟨rfl, rfl, rfl, rfl⟩, stR_nil hk.1, hk.2.1, hk.2.2.1, by simp, fun k hk2 => by rw [show k = 0 by simpa using hk2, hk.2.2.2]; rfl⟩
end TX2
def Tx0 (by' pl : List Int32) (ln dp aw : Int32) : pH := [.inr (8, [.ref 1, .ref 2, .int ln, .int dp, .int aw]), .inl by', .inl pl]
section TX3
variable {sc : List Int32} {X : pX} {B : pB} {Q : pQ} {by' pl : List Int32} {ln dp aw : Int32}
theorem t_tlength (hX : Cl sc X) (hq : Q (some (.int ln)) (Tx0 by' pl ln dp aw)) : X B 73 0 [some (.ref 0)] [] (Tx0 by' pl ln dp aw) Q := by
  repeat refine hX ?_
  exact hq
theorem t_terase (hX : Cl sc X) (hq : Q none (Tx0 by' pl 0 dp aw)) : X B 74 0 [some (.ref 0)] [] (Tx0 by' pl ln dp aw) Q := by
  repeat refine hX ?_
  exact hq
theorem t_tappend (hX : Cl sc X) {n : Nat} (hn : n ≤ 120) (hby : by'.length = 120) {c : Int32} (hq0 : n = 120 → Q (some (.int 0)) (Tx0 by' pl (nI n) dp aw)) (hq1 : n < 120 → Q (some (.int 1)) (Tx0 (by'.set n c) pl (nI (n + 1)) dp aw)) : X B 75 0 [some (.ref 0), some (.int c)] [] (Tx0 by' pl (nI n) dp aw) Q := by
  repeat refine hX ?_
  refine And.intro (fun h => ?_) (fun h => ?_)
  · have hn2 : n < 120 := (nlt (b := 120) (by omega) (by omega)).mp h
    repeat refine hX ?_
    refine And.intro (vp_in_nI (by omega) (by omega)) ?_
    rw [nI_clamp (by omega)]
    repeat refine hX ?_
    have := hq1 hn2
    rw [nI_succ] at this
    exact And.intro (Or.inr rfl) this
  · repeat refine hX ?_
    exact And.intro (Or.inl rfl) (hq0 (by have : ¬ n < 120 := fun q => h ((nlt (b := 120) (by omega) (by omega)).mpr q); omega))
theorem t_Text (hX : Cl sc X) (hB : 1 ≤ B.1 ∧ 2 ≤ B.2.1 ∧ 160 ≤ B.2.2) (hq : Q none (Tx0 (List.replicate 120 0) (List.replicate 40 0) 0 0 0)) : X B 72 0 [some (.ref 0)] [] [.inr (8, [.null, .null, .int 0, .int 0, .int 0])] Q := by
  obtain ⟨b1, b2, b3⟩ := hB
  repeat refine hX ?_
  refine And.intro ⟨b1, Nat.le_of_ble_eq_true rfl⟩ ?_
  repeat refine hX ?_
  refine And.intro (by decide) (And.intro ⟨by decide, by omega, by show 120 ≤ _; omega⟩ ?_)
  repeat refine hX ?_
  refine And.intro (by decide) (And.intro ⟨by decide, by show 1 ≤ B.2.1 - 1; omega, by show 40 ≤ B.2.2 - 120; omega⟩ ?_)
  repeat refine hX ?_
  exact hq
end TX3
