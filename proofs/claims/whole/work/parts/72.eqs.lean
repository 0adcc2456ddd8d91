/-! Small numbers. -/
theorem nle {a b : Nat} (ha : a < 2147483648) (hb : b < 2147483648) : nI a ≤ nI b ↔ a ≤ b := by
  rw [Int32.le_iff_toInt_le, nI_toInt ha, nI_toInt hb]; omega
theorem nlt {a b : Nat} (ha : a < 2147483648) (hb : b < 2147483648) : nI a < nI b ↔ a < b := by
  rw [Int32.lt_iff_toInt_lt, nI_toInt ha, nI_toInt hb]; omega
theorem neq {a b : Nat} (ha : a < 2147483648) (hb : b < 2147483648) : nI a = nI b ↔ a = b := by
  rw [← Int32.toInt_inj, nI_toInt ha, nI_toInt hb]; omega
theorem nadd (a b : Nat) : nI a + nI b = nI (a + b) := (Int32.ofNat_add a b).symm
theorem nmul (a b : Nat) : nI a * nI b = nI (a * b) := (Int32.ofNat_mul a b).symm
theorem nsub {a b : Nat} (h : b ≤ a) : nI a - nI b = nI (a - b) := by
  have : nI a = nI (a - b) + nI b := by rw [nadd, Nat.sub_add_cancel h]
  rw [this, Int32.add_sub_cancel]
theorem ndiv {a b : Nat} (ha : a < 2147483648) (hb : b < 2147483648) (h0 : 0 < b) : nI a / nI b = nI (a / b) := by
  rw [← Int32.toInt_inj]
  have h1 : a / b ≤ a := Nat.div_le_self a b
  rw [nI_toInt (by omega)]
  rw [Int32.toInt_div, nI_toInt ha, nI_toInt hb]
  have e : (a : Int).tdiv (b : Int) = ((a / b : Nat) : Int) := by rw [Int.tdiv_eq_ediv_of_nonneg (by omega)]; rfl
  rw [e]
  generalize a / b = q at h1
  exact Int.bmod_eq_of_le (by omega) (by omega)
theorem nrem {a b : Nat} (ha : a < 2147483648) (hb : b < 2147483648) (h0 : 0 < b) : nI a - nI a / nI b * nI b = nI (a % b) := by
  rw [ndiv ha hb h0, nmul, nsub (Nat.div_mul_le_self a b)]
  congr 1
  have := Nat.div_add_mod a b
  rw [Nat.mul_comm] at this
  omega
theorem ex_nI {e : Int32} (h : ¬ e < 0) : e = nI e.toNatClampNeg ∧ e.toNatClampNeg < 2147483648 := by
  have h0 : (0 : Int) ≤ e.toInt := by
    have := Int32.not_lt.mp h
    rw [Int32.le_iff_toInt_le] at this
    simpa using this
  have h1 : e.toInt < 2147483648 := Int32.toInt_lt e
  have h2 : (e.toNatClampNeg : Int) = e.toInt := Int.toNat_of_nonneg h0
  refine ⟨?_, by omega⟩
  rw [← Int32.toInt_inj, nI_toInt (by omega), h2]
theorem nneg {a : Nat} (ha : a < 2147483648) : ¬ nI a < 0 := nI_pos ha
theorem getD_out {α : Type} {l : List α} {n : Nat} {d : α} (h : l.length ≤ n) : l.getD n d = d := by
  rw [List.getD_eq_getElem?_getD, List.getElem?_eq_none h]; rfl
/-! Equations. -/
def EqW (L S N D C : List Int32) (sd tt : Int32) : pH := [.inr (2, [.ref 1, .ref 2, .ref 3, .ref 4, .ref 5, .int sd, .int tt]), .inl L, .inl S, .inl N, .inl D, .inl C]
section EQ
variable {sc : List Int32} {X : pX} {B : pB} {Q : pQ} {L S N D C : List Int32} {sd tt : Int32}
theorem t_letterAt (hX : Cl sc X) {n : Nat} (hn : n < 2147483648) (hL : L.length = 40) (hq : Q (some (.int (L.getD n 0))) (EqW L S N D C sd tt)) : X B 23 0 [some (.ref 0), some (.int (nI n))] [] (EqW L S N D C sd tt) Q := by
  repeat refine hX ?_
  refine And.intro (fun h1 => absurd h1 (nneg hn)) (fun _ => ?_)
  repeat refine hX ?_
  refine And.intro (fun h2 => ?_) (fun h2 => ?_)
  · repeat refine hX ?_
    rw [getD_out (by rw [hL]; exact (nle (a := 40) (by omega) hn).mp h2)] at hq
    exact hq
  · have h3 : n < 40 := Nat.not_le.mp fun q => h2 ((nle (a := 40) (by omega) hn).mpr q)
    repeat refine hX ?_
    refine And.intro (vp_in_nI (by omega) (by omega)) ?_
    repeat refine hX ?_
    show Q (some (.int (L.getD (nI n).toNatClampNeg 0))) _
    rw [nI_clamp hn]
    exact hq
theorem t_nodesAt (hX : Cl sc X) {n : Nat} (hn : n < 2147483648) (hL : N.length = 40) (hq : Q (some (.int (N.getD n 0))) (EqW L S N D C sd tt)) : X B 24 0 [some (.ref 0), some (.int (nI n))] [] (EqW L S N D C sd tt) Q := by
  repeat refine hX ?_
  refine And.intro (fun h1 => absurd h1 (nneg hn)) (fun _ => ?_)
  repeat refine hX ?_
  refine And.intro (fun h2 => ?_) (fun h2 => ?_)
  · repeat refine hX ?_
    rw [getD_out (by rw [hL]; exact (nle (a := 40) (by omega) hn).mp h2)] at hq
    exact hq
  · have h3 : n < 40 := Nat.not_le.mp fun q => h2 ((nle (a := 40) (by omega) hn).mpr q)
    repeat refine hX ?_
    refine And.intro (vp_in_nI (by omega) (by omega)) ?_
    repeat refine hX ?_
    show Q (some (.int (N.getD (nI n).toNatClampNeg 0))) _
    rw [nI_clamp hn]
    exact hq
theorem t_depthAt (hX : Cl sc X) {n : Nat} (hn : n < 2147483648) (hL : D.length = 40) (hq : Q (some (.int (D.getD n 0))) (EqW L S N D C sd tt)) : X B 25 0 [some (.ref 0), some (.int (nI n))] [] (EqW L S N D C sd tt) Q := by
  repeat refine hX ?_
  refine And.intro (fun h1 => absurd h1 (nneg hn)) (fun _ => ?_)
  repeat refine hX ?_
  refine And.intro (fun h2 => ?_) (fun h2 => ?_)
  · repeat refine hX ?_
    rw [getD_out (by rw [hL]; exact (nle (a := 40) (by omega) hn).mp h2)] at hq
    exact hq
  · have h3 : n < 40 := Nat.not_le.mp fun q => h2 ((nle (a := 40) (by omega) hn).mpr q)
    repeat refine hX ?_
    refine And.intro (vp_in_nI (by omega) (by omega)) ?_
    repeat refine hX ?_
    show Q (some (.int (D.getD (nI n).toNatClampNeg 0))) _
    rw [nI_clamp hn]
    exact hq
theorem t_secondOf (hX : Cl sc X) {n : Nat} (hn : n < 2147483648) (hL : C.length = 40) (hq : Q (some (.int (C.getD n 0))) (EqW L S N D C sd tt)) : X B 26 0 [some (.ref 0), some (.int (nI n))] [] (EqW L S N D C sd tt) Q := by
  repeat refine hX ?_
  refine And.intro (fun h1 => absurd h1 (nneg hn)) (fun _ => ?_)
  repeat refine hX ?_
  refine And.intro (fun h2 => ?_) (fun h2 => ?_)
  · repeat refine hX ?_
    rw [getD_out (by rw [hL]; exact (nle (a := 40) (by omega) hn).mp h2)] at hq
    exact hq
  · have h3 : n < 40 := Nat.not_le.mp fun q => h2 ((nle (a := 40) (by omega) hn).mpr q)
    repeat refine hX ?_
    refine And.intro (vp_in_nI (by omega) (by omega)) ?_
    repeat refine hX ?_
    show Q (some (.int (C.getD (nI n).toNatClampNeg 0))) _
    rw [nI_clamp hn]
    exact hq
theorem t_erase (hX : Cl sc X) (hq : Q none (EqW L S N D C 0 0)) : X B 15 0 [some (.ref 0)] [] (EqW L S N D C sd tt) Q := by
  repeat refine hX ?_
  exact hq
theorem t_count (hX : Cl sc X) {k : Nat} (hk : k < 2147483648) (hq : Q (some (.int (nI (k / 2)))) (EqW L S N D C (nI k) tt)) : X B 19 0 [some (.ref 0)] [] (EqW L S N D C (nI k) tt) Q := by
  repeat refine hX ?_
  refine And.intro (by decide) ?_
  repeat refine hX ?_
  show Q (some (.int (nI k / nI 2))) _
  rw [ndiv hk (by omega) (by omega)]
  exact hq
theorem t_total (hX : Cl sc X) (hq : Q (some (.int tt)) (EqW L S N D C sd tt)) : X B 20 0 [some (.ref 0)] [] (EqW L S N D C sd tt) Q := by
  repeat refine hX ?_
  exact hq
theorem t_awaitsLeft (hX : Cl sc X) {k : Nat} (hk : k < 2147483648) (hq : Q (some (.int (if k % 2 = 0 then 1 else 0))) (EqW L S N D C (nI k) tt)) : X B 18 0 [some (.ref 0)] [] (EqW L S N D C (nI k) tt) Q := by
  repeat refine hX ?_
  refine And.intro (by decide) ?_
  refine hX ?_
  show (nI k - nI k / nI 2 * nI 2 = 0 → _) ∧ (¬ nI k - nI k / nI 2 * nI 2 = 0 → _)
  rw [nrem hk (by omega) (by omega)]
  refine And.intro (fun h1 => ?_) (fun h1 => ?_)
  · have h2 : k % 2 = 0 := (neq (b := 0) (by omega) (by omega)).mp h1
    rw [if_pos h2] at hq
    repeat refine hX ?_
    exact And.intro (Or.inr rfl) hq
  · have h2 : ¬ k % 2 = 0 := fun q => h1 (by rw [q]; rfl)
    rw [if_neg h2] at hq
    repeat refine hX ?_
    exact And.intro (Or.inl rfl) hq
def hsI (e : Int32) (n : Nat) : Int32 := if ¬ e < 0 ∧ e < nI n then 1 else 0
theorem t_has (hX : Cl sc X) (hB : 1 ≤ B.1) {k : Nat} (hk : k < 2147483648) {e : Int32} (hq : Q (some (.int (hsI e (k / 2)))) (EqW L S N D C (nI k) tt)) : X B 21 0 [some (.ref 0), some (.int e)] [] (EqW L S N D C (nI k) tt) Q := by
  repeat refine hX ?_
  refine And.intro (fun h1 => ?_) (fun h1 => ?_)
  · rw [hsI, if_neg (fun q => q.1 h1)] at hq
    repeat refine hX ?_
    exact And.intro (Or.inl rfl) hq
  · repeat refine hX ?_
    refine And.intro trivial (cP [0, 1, 2, 3, 4, 5] [.ref 0] (EqW L S N D C (nI k) tt) (some (.int (nI (k / 2)))) [.int (nI (k / 2)), .int e] hB rfl rfl rfl rfl (fun Q' hQ' => t_count hX hk hQ') ?_)
    refine hX (And.intro (fun h2 => ?_) (fun h2 => ?_))
    · rw [hsI, if_neg (fun q => Int32.not_lt.mpr h2 q.2)] at hq
      repeat refine hX ?_
      exact And.intro (Or.inl rfl) hq
    · rw [hsI, if_pos ⟨h1, Int32.not_le.mp h2⟩] at hq
      repeat refine hX ?_
      exact And.intro (Or.inr rfl) hq
end EQ
