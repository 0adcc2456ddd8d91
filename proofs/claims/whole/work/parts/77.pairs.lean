/-! Pairs. -/
def PaW (L S N D C : List Int32) (sd tt : Int32) (lf rt : List Int32) (cn : Int32) : pH := [.inr (6, [.ref 1, .ref 7, .ref 8, .int cn]), .inr (2, [.ref 2, .ref 3, .ref 4, .ref 5, .ref 6, .int sd, .int tt]), .inl L, .inl S, .inl N, .inl D, .inl C, .inl lf, .inl rt]
/-- the PAIRS that n pairs of terms, beginning at p and q, are taken apart into -/
def pw (l : List Int32) : Nat → Nat → Nat → Nat → List (Nat × Nat)
  | 0, _, _, _ => []
  | _ + 1, 0, _, _ => []
  | f + 1, n + 1, p, q => if l.getD p 0 = l.getD q 0 ∧ fxI (l.getD p 0) = 0 then pw l f (n + arN (l.getD p 0)) (p + 1) (q + 1) else (p, q) :: pw l f n (p + tlen (l.drop p) 1) (q + tlen (l.drop q) 1)
/-- a PAIR's kind, by the letters at its fronts -/
def pkI (a b : Int32) : Int32 := if fxI a = 1 ∧ fxI b = 1 then 3 else if fxI a = 1 ∨ fxI b = 1 then 2 else 1
def pwI (a b : Int32) : Int32 := if pkI a b = 2 then 1 + arI (if fxI a = 1 then a else b) else 0
section PA
variable {sc : List Int32} {X : pX} {B : pB} {Q : pQ} {L S N D C lf rt : List Int32} {sd tt cn : Int32}
theorem t_left (hX : Cl sc X) {n : Nat} (hn : n < 2147483648) (hL : lf.length = 20) (hq : Q (some (.int (lf.getD n 0))) (PaW L S N D C sd tt lf rt cn)) : X B 53 0 [some (.ref 0), some (.int (nI n))] [] (PaW L S N D C sd tt lf rt cn) Q := by
  repeat refine hX ?_
  refine And.intro (fun h1 => absurd h1 (nneg hn)) (fun _ => ?_)
  repeat refine hX ?_
  refine And.intro (fun h2 => ?_) (fun h2 => ?_)
  · repeat refine hX ?_
    rw [getD_out (by rw [hL]; exact (nle (a := 20) (by omega) hn).mp h2)] at hq
    exact hq
  · have h3 : n < 20 := Nat.not_le.mp fun q => h2 ((nle (a := 20) (by omega) hn).mpr q)
    repeat refine hX ?_
    refine And.intro (vp_in_nI (by omega) (by omega)) ?_
    repeat refine hX ?_
    show Q (some (.int (lf.getD (nI n).toNatClampNeg 0))) _
    rw [nI_clamp hn]
    exact hq
theorem t_right (hX : Cl sc X) {n : Nat} (hn : n < 2147483648) (hL : rt.length = 20) (hq : Q (some (.int (rt.getD n 0))) (PaW L S N D C sd tt lf rt cn)) : X B 54 0 [some (.ref 0), some (.int (nI n))] [] (PaW L S N D C sd tt lf rt cn) Q := by
  repeat refine hX ?_
  refine And.intro (fun h1 => absurd h1 (nneg hn)) (fun _ => ?_)
  repeat refine hX ?_
  refine And.intro (fun h2 => ?_) (fun h2 => ?_)
  · repeat refine hX ?_
    rw [getD_out (by rw [hL]; exact (nle (a := 20) (by omega) hn).mp h2)] at hq
    exact hq
  · have h3 : n < 20 := Nat.not_le.mp fun q => h2 ((nle (a := 20) (by omega) hn).mpr q)
    repeat refine hX ?_
    refine And.intro (vp_in_nI (by omega) (by omega)) ?_
    repeat refine hX ?_
    show Q (some (.int (rt.getD (nI n).toNatClampNeg 0))) _
    rw [nI_clamp hn]
    exact hq
theorem t_pcount (hX : Cl sc X) (hq : Q (some (.int cn)) (PaW L S N D C sd tt lf rt cn)) : X B 52 0 [some (.ref 0)] [] (PaW L S N D C sd tt lf rt cn) Q := by
  repeat refine hX ?_
  exact hq
theorem t_pkind (hX : Cl sc X) (hB : 2 ≤ B.1) {n p q : Nat} (hn : n < 20) (hlf : lf.length = 20) (hrt : rt.length = 20) (hL : L.length = 40) (hp : lf.getD n 0 = nI p) (hq0 : rt.getD n 0 = nI q) (hp4 : p < 40) (hq4 : q < 40) (hq : Q (some (.int (pkI (L.getD p 0) (L.getD q 0)))) (PaW L S N D C sd tt lf rt cn)) : X B 55 0 [some (.ref 0), some (.int (nI n)), none, none] [] (PaW L S N D C sd tt lf rt cn) Q := by
  repeat refine hX ?_
  refine And.intro trivial (cP [0, 1, 2, 3, 4, 5, 6, 7, 8] [.ref 0, .int (nI n)] (PaW L S N D C sd tt lf rt cn) (some (.int (lf.getD n 0))) [.int (lf.getD n 0), .ref 1] (by omega) rfl rfl rfl rfl (fun Q' hQ' => t_left hX (by omega) hlf hQ') ?_)
  rw [hp]
  refine hX (And.intro trivial (cP [1, 2, 3, 4, 5, 6] [.ref 0, .int (nI p)] (EqW L S N D C sd tt) (some (.int (L.getD p 0))) [.int (L.getD p 0)] (by omega) rfl rfl rfl rfl (fun Q' hQ' => t_letterAt hX (by omega) hL hQ') ?_))
  generalize L.getD p 0 = a at hq ⊢
  refine hX (cP [] [.int a] [] (some (.int (fxI a))) [.int (fxI a)] (by omega) rfl rfl rfl rfl (fun Q' hQ' => t_isFlex hX hQ') ?_)
  repeat refine hX ?_
  refine And.intro trivial (cP [0, 1, 2, 3, 4, 5, 6, 7, 8] [.ref 0, .int (nI n)] (PaW L S N D C sd tt lf rt cn) (some (.int (rt.getD n 0))) [.int (rt.getD n 0), .ref 1] (by omega) rfl rfl rfl rfl (fun Q' hQ' => t_right hX (by omega) hrt hQ') ?_)
  rw [hq0]
  refine hX (And.intro trivial (cP [1, 2, 3, 4, 5, 6] [.ref 0, .int (nI q)] (EqW L S N D C sd tt) (some (.int (L.getD q 0))) [.int (L.getD q 0)] (by omega) rfl rfl rfl rfl (fun Q' hQ' => t_letterAt hX (by omega) hL hQ') ?_))
  generalize L.getD q 0 = b at hq ⊢
  refine hX (cP [] [.int b] [] (some (.int (fxI b))) [.int (fxI b)] (by omega) rfl rfl rfl rfl (fun Q' hQ' => t_isFlex hX hQ') ?_)
  rcases fxI_or a with ha | ha <;> rcases fxI_or b with hb | hb <;> rw [ha, hb] <;> rw [pkI, ha, hb] at hq
  · repeat refine hX ?_
    refine And.intro (fun _ => ?_) (fun h1 => absurd rfl h1)
    repeat refine hX ?_
    refine And.intro (fun _ => ?_) (fun h1 => absurd rfl h1)
    repeat refine hX ?_
    refine And.intro (fun _ => ?_) (fun h1 => absurd rfl h1)
    repeat refine hX ?_
    exact hq
  · repeat refine hX ?_
    refine And.intro (fun _ => ?_) (fun h1 => absurd rfl h1)
    repeat refine hX ?_
    refine And.intro (fun _ => ?_) (fun h1 => absurd rfl h1)
    repeat refine hX ?_
    refine And.intro (fun h1 => absurd h1 (by decide)) (fun _ => ?_)
    repeat refine hX ?_
    exact hq
  · repeat refine hX ?_
    refine And.intro (fun h1 => absurd h1 (by decide)) (fun _ => ?_)
    repeat refine hX ?_
    refine And.intro (fun _ => ?_) (fun h1 => absurd rfl h1)
    repeat refine hX ?_
    refine And.intro (fun h1 => absurd h1 (by decide)) (fun _ => ?_)
    repeat refine hX ?_
    exact hq
  · repeat refine hX ?_
    refine And.intro (fun h1 => absurd h1 (by decide)) (fun _ => ?_)
    repeat refine hX ?_
    refine And.intro (fun h1 => absurd h1 (by decide)) (fun _ => ?_)
    repeat refine hX ?_
    exact hq
theorem t_ways (hX : Cl sc X) (hB : 3 ≤ B.1) {n p q : Nat} (hn : n < 20) (hlf : lf.length = 20) (hrt : rt.length = 20) (hL : L.length = 40) (hp : lf.getD n 0 = nI p) (hq0 : rt.getD n 0 = nI q) (hp4 : p < 40) (hq4 : q < 40) (hq : Q (some (.int (pwI (L.getD p 0) (L.getD q 0)))) (PaW L S N D C sd tt lf rt cn)) : X B 56 0 [some (.ref 0), some (.int (nI n)), none] [] (PaW L S N D C sd tt lf rt cn) Q := by
  repeat refine hX ?_
  refine And.intro trivial (cP [0, 1, 2, 3, 4, 5, 6, 7, 8] [.ref 0, .int (nI n)] (PaW L S N D C sd tt lf rt cn) (some (.int (pkI (L.getD p 0) (L.getD q 0)))) [.int (pkI (L.getD p 0) (L.getD q 0))] (by omega) rfl rfl rfl rfl (fun Q' hQ' => t_pkind hX (by show 2 ≤ B.1 - 1; omega) hn hlf hrt hL hp hq0 hp4 hq4 hQ') ?_)
  repeat refine hX ?_
  refine And.intro (fun h1 => ?_) (fun h1 => ?_)
  · rw [pwI, if_pos h1] at hq
    repeat refine hX ?_
    refine And.intro trivial (cP [0, 1, 2, 3, 4, 5, 6, 7, 8] [.ref 0, .int (nI n)] (PaW L S N D C sd tt lf rt cn) (some (.int (lf.getD n 0))) [.int (lf.getD n 0), .ref 1] (by omega) rfl rfl rfl rfl (fun Q' hQ' => t_left hX (by omega) hlf hQ') ?_)
    rw [hp]
    refine hX (And.intro trivial (cP [1, 2, 3, 4, 5, 6] [.ref 0, .int (nI p)] (EqW L S N D C sd tt) (some (.int (L.getD p 0))) [.int (L.getD p 0)] (by omega) rfl rfl rfl rfl (fun Q' hQ' => t_letterAt hX (by omega) hL hQ') ?_))
    generalize L.getD p 0 = a at hq ⊢
    repeat refine hX ?_
    refine (cP [] [.int a] [] (some (.int (fxI a))) [.int (fxI a), .int 1] (by omega) rfl rfl rfl rfl (fun Q' hQ' => t_isFlex hX hQ') ?_)
    rcases fxI_or a with ha | ha
    · rw [ha]
      rw [if_neg (by rw [ha]; decide)] at hq
      refine hX (And.intro (fun _ => ?_) (fun h1 => absurd rfl h1))
      repeat refine hX ?_
      refine And.intro trivial (cP [0, 1, 2, 3, 4, 5, 6, 7, 8] [.ref 0, .int (nI n)] (PaW L S N D C sd tt lf rt cn) (some (.int (rt.getD n 0))) [.int (rt.getD n 0), .ref 1, .int 1] (by omega) rfl rfl rfl rfl (fun Q' hQ' => t_right hX (by omega) hrt hQ') ?_)
      rw [hq0]
      refine hX (And.intro trivial (cP [1, 2, 3, 4, 5, 6] [.ref 0, .int (nI q)] (EqW L S N D C sd tt) (some (.int (L.getD q 0))) [.int (L.getD q 0), .int 1] (by omega) rfl rfl rfl rfl (fun Q' hQ' => t_letterAt hX (by omega) hL hQ') ?_))
      generalize L.getD q 0 = b at hq ⊢
      refine hX (cP [] [.int b] [] (some (.int (arI b))) [.int (arI b), .int 1] (by omega) rfl rfl rfl rfl (fun Q' hQ' => t_parts hX hQ') ?_)
      repeat refine hX ?_
      exact hq
    · rw [ha]
      rw [if_pos ha] at hq
      refine hX (And.intro (fun h1 => absurd h1 (by decide)) (fun _ => ?_))
      repeat refine hX ?_
      refine (cP [] [.int a] [] (some (.int (arI a))) [.int (arI a), .int 1] (by omega) rfl rfl rfl rfl (fun Q' hQ' => t_parts hX hQ') ?_)
      repeat refine hX ?_
      exact hq
  · rw [pwI, if_neg h1] at hq
    repeat refine hX ?_
    exact hq
theorem t_keep (hX : Cl sc X) {n : Nat} (hn : n < 20) (hlf : lf.length = 20) (hrt : rt.length = 20) {p q : Int32} (hq : Q none (PaW L S N D C sd tt (lf.set n p) (rt.set n q) (nI (n + 1)))) : X B 61 0 [some (.ref 0), some (.int p), some (.int q)] [] (PaW L S N D C sd tt lf rt (nI n)) Q := by
  repeat refine hX ?_
  refine And.intro (fun h1 => absurd ((nle (a := 20) (by omega) (by omega)).mp h1) (by omega)) (fun _ => ?_)
  repeat refine hX ?_
  refine And.intro (vp_in_nI (by omega) (by omega)) ?_
  repeat refine hX ?_
  refine And.intro (vp_in_nI (by omega) (by omega)) ?_
  rw [nI_clamp (by omega)]
  repeat refine hX ?_
  rw [nI_succ] at hq
  exact hq
end PA
