/-! FlexTerms: calls that only tell. -/
theorem i_nat {e : Int32} (h : ¬ e < 0) : ∃ n, e = nI n ∧ n < 2147483648 ∧ e.toNatClampNeg = n := by
  have h0 : (0 : Int) ≤ e.toInt := by
    have := Int32.le_iff_toInt_le.mp (Int32.not_lt.mp h)
    simpa using this
  have hl : e.toNatClampNeg < 2147483648 := by have := e.toInt_lt; rw [Int32.toNatClampNeg]; omega
  refine ⟨e.toNatClampNeg, ?_, hl, rfl⟩
  apply Int32.toInt_inj.mp
  rw [nI_toInt hl, Int32.toNatClampNeg]
  omega
/-- what is told of a side -/
def sfN (t : List Int32) (w : Nat) : Int32 := if w = 0 then nI t.length else if w = 1 then nI (flb t 0) else if w = 2 then nI (dpf t) else t.getD 0 0
def sOf (s : St) (e d w : Int32) : Int32 × St := if hsI e (s.2.1.length / 2) = 1 ∧ (d = 0 ∨ d = 1) ∧ ¬ w < 0 ∧ w < 4 then (sfN (s.2.1.getD (2 * e.toNatClampNeg + d.toNatClampNeg) []) w.toNatClampNeg, s) else sBad s
/-- an EQUATION as it is written -/
def shw (u v : List Int32) : List Int32 := (wS u []).1 ++ [61] ++ (wS v []).1
def tlK (o : List Int32) (k : Int32) : Int32 := if k = -1 then nI o.length else if k.toNatClampNeg < o.length then o.getD k.toNatClampNeg 0 else -5
def sShown (s : St) (e k : Int32) : Int32 × St := if hsI e (s.2.1.length / 2) = 1 ∧ -1 ≤ k then (tlK (shw (s.2.1.getD (2 * e.toNatClampNeg) []) (s.2.1.getD (2 * e.toNatClampNeg + 1) [])) k, s) else sBad s
def sPairs (s : St) (w : Int32) : Int32 × St := if ¬ w < 0 ∧ w < 4 then (nI (hmN s.2.1.flatten (prs s.2.1.flatten s.2.1 0) w), s) else sBad s
def prF (l : List Int32) (z : Nat × Nat) (w : Nat) : Int32 := if w = 0 then l.getD z.1 0 else if w = 1 then l.getD z.2 0 else if w = 2 then nI (tlen (l.drop z.1) 1) else if w = 3 then nI (tlen (l.drop z.2) 1) else if w = 4 then pkI (l.getD z.1 0) (l.getD z.2 0) else pwI (l.getD z.1 0) (l.getD z.2 0)
def sPair (s : St) (i w : Int32) : Int32 × St := if ¬ i < 0 ∧ ¬ w < 0 ∧ w < 6 then (if i.toNatClampNeg < (prs s.2.1.flatten s.2.1 0).length then prF s.2.1.flatten ((prs s.2.1.flatten s.2.1 0).getD i.toNatClampNeg (0, 0)) w.toNatClampNeg else -5, s) else sBad s
def sBodies (s : St) (x n : Int32) : Int32 × St := if ¬ x < 0 ∧ x < 6 ∧ 1 ≤ n ∧ n ≤ 6 then (nI (spF (x.toNatClampNeg % 3) n.toNatClampNeg 1).length, s) else sBad s
def fcN (s : St) (w : Nat) : Int32 := if w = 0 then nI s.2.2.2.1 else if w = 1 then nI s.2.2.2.2.1 else if w = 2 then nI s.2.2.2.2.2 else if w = 3 then nI s.1.length else if w = 4 then nI (s.2.1.length / 2) else if w = 5 then nI s.2.1.flatten.length else if w = 6 then nI (flb s.2.1.flatten 0) else nI s.2.2.1.length
def sTold (s : St) (w : Int32) : Int32 × St := if ¬ w < 0 ∧ w < 8 then (fcN s w.toNatClampNeg, s) else sBad s
section FE
variable {sc : List Int32} {X : pX} {B : pB} {Q : pQ} {hn : Int32} {H : Nat → Eq7} {T : TxT} {a b : Eq7} {P Bo : PaT} {G : GrT} {Se : SeT} {W : WrT} {c1 c2 c3 : Int32} {E : List (List Int32)}
theorem t_sideFact (hX : Cl sc X) (hB : 4 ≤ B.1) (hg : gE E) (ha : is7 E a) (hm : mOK E.flatten a.2.2.1 a.2.2.2.1 a.2.2.2.2.1) {i j w : Nat} (hi : i < E.length / 2) (hj : j < 2) (hw : w < 4) (hq : Q (some (.int (sfN (E.getD (2 * i + j) []) w))) (FW fr0 hn H T a b P Bo G Se W c1 c2 c3 [])) : X B 110 0 [some (.ref 0), some (.int (nI i)), some (.int (nI j)), some (.int (nI w)), none] [] (FW fr0 hn H T a b P Bo G Se W c1 c2 c3 []) Q := by
  obtain ⟨L, S, N, D, C, sd, tt⟩ := a
  obtain ⟨hE, h1, h2⟩ := id ha
  dsimp only at hE h1 h2 hm
  subst h1 h2
  obtain ⟨xr, d1, d2⟩ := side_at hE.2.2.2 (k := 2 * i + j) (by omega)
  generalize hu : E.getD (2 * i + j) [] = u at d1 d2 hq
  have hxp := okF_pos d2 (by omega)
  have h8 := hg.1.1
  have h40 := hg.1.2.1
  generalize hp : pre E (2 * i + j) = p at d1
  have k1 := congrArg List.length d1
  rw [List.length_drop, List.length_append] at k1
  have hpl : p < E.flatten.length := by omega
  have e1 : N.getD p 0 = nI u.length := by rw [(hm.2 p hpl).1, d1, okF_tlen u xr 1 d2]
  have e2 : D.getD p 0 = nI (dpf u) := by
    rw [(hm.2 p hpl).2.1, d1]
    congr 1
    obtain ⟨a1, a2⟩ := ev_app (fun (_ : Int32) (as : List Nat) => 1 + as.foldr max 0) u xr 1 d2
    rw [dpf, dpf, a1]
    cases hx : ev (fun (_ : Int32) (as : List Nat) => 1 + as.foldr max 0) u with
    | nil => rw [hx] at a2; simp at a2
    | cons v l => rfl
  have e3 : L.getD p 0 = u.getD 0 0 := by
    rw [LgetD hE.2.1 hpl]
    have := congrArg (fun z => z.getD 0 0) d1
    rw [List.getD_eq_getElem?_getD, List.getElem?_drop, Nat.add_zero, List.getD_eq_getElem?_getD, List.getElem?_append_left hxp, ← List.getD_eq_getElem?_getD, ← List.getD_eq_getElem?_getD] at this
    exact this
  have e4 : ((L.drop p).take u.length).foldl flS 0 = nI (flb u 0) := by
    have : (L.drop p).take u.length = u := by
      have e := congrArg (fun z => (z.drop p).take u.length) hE.2.1
      rw [d1, List.take_left, List.drop_take, List.take_take, Nat.min_eq_left (by omega)] at e
      exact e
    rw [this]
    exact flS_eq u 0
  iterate 5 refine hX ?_
  refine And.intro trivial (cP rfN [.ref 0, .int (nI i), .int (nI j)] (EqW L S N D C (nI E.length) (nI E.flatten.length)) (some (.int (S.getD (2 * i + j) 0))) [.int (S.getD (2 * i + j) 0)] (by omega) rfl rfl rfl rfl (fun Q' hQ' => t_start hX (by show 2 ≤ B.1 - 1; omega) h8 hi hj hE.1.2.1 hQ') ?_)
  rw [hE.2.2.1 (2 * i + j) (by omega), hp]
  iterate 3 refine hX ?_
  rw [sfN] at hq
  refine And.intro (fun h => ?_) (fun h => And.intro (fun h2 => ?_) (fun h2 => And.intro (fun h3 => ?_) (fun h3 => ?_)))
  · rw [if_pos ((neq (b := 0) (by omega) (by omega)).mp h)] at hq
    iterate 4 refine hX ?_
    refine And.intro trivial (cP rfN [.ref 0, .int (nI p)] (EqW L S N D C (nI E.length) (nI E.flatten.length)) (some (.int (N.getD p 0))) [.int (N.getD p 0)] (by omega) rfl rfl rfl rfl (fun Q' hQ' => t_nodesAt hX (by omega) hm.1.1 hQ') ?_)
    rw [e1]
    refine hX ?_
    exact hq
  · rw [if_neg (fun q => h (by rw [q]; rfl)), if_pos ((neq (b := 1) (by omega) (by omega)).mp h2)] at hq
    iterate 7 refine hX ?_
    refine And.intro trivial (cP rfN [.ref 0, .int (nI p)] (EqW L S N D C (nI E.length) (nI E.flatten.length)) (some (.int (N.getD p 0))) [.int (N.getD p 0), .int (nI p), .ref 4] (by omega) rfl rfl rfl rfl (fun Q' hQ' => t_nodesAt hX (by omega) hm.1.1 hQ') ?_)
    rw [e1]
    refine hX (And.intro trivial (cP rfN [.ref 0, .int (nI p), .int (nI u.length)] (EqW L S N D C (nI E.length) (nI E.flatten.length)) (some (.int (nI (flb u 0)))) [.int (nI (flb u 0))] (by omega) rfl rfl rfl rfl (fun Q' hQ' => t_flexIn hX (by show 2 ≤ B.1 - 1; omega) hE.1.1 (by omega) (by rw [e4]; exact hQ')) ?_))
    refine hX ?_
    exact hq
  · rw [if_neg (fun q => h (by rw [q]; rfl)), if_neg (fun q => h2 (by rw [q]; rfl)), if_pos ((neq (b := 2) (by omega) (by omega)).mp h3)] at hq
    iterate 4 refine hX ?_
    refine And.intro trivial (cP rfN [.ref 0, .int (nI p)] (EqW L S N D C (nI E.length) (nI E.flatten.length)) (some (.int (D.getD p 0))) [.int (D.getD p 0)] (by omega) rfl rfl rfl rfl (fun Q' hQ' => t_depthAt hX (by omega) hm.1.2.1 hQ') ?_)
    rw [e2]
    refine hX ?_
    exact hq
  · rw [if_neg (fun q => h (by rw [q]; rfl)), if_neg (fun q => h2 (by rw [q]; rfl)), if_neg (fun q => h3 (by rw [q]; rfl))] at hq
    iterate 4 refine hX ?_
    refine And.intro trivial (cP rfN [.ref 0, .int (nI p)] (EqW L S N D C (nI E.length) (nI E.flatten.length)) (some (.int (L.getD p 0))) [.int (L.getD p 0)] (by omega) rfl rfl rfl rfl (fun Q' hQ' => t_letterAt hX (by omega) hE.1.1 hQ') ?_)
    rw [e3]
    refine hX ?_
    exact hq
theorem d_nat {d : Int32} (h : d = 0 ∨ d = 1) : d = nI d.toNatClampNeg ∧ d.toNatClampNeg < 2 := by
  rcases h with rfl | rfl
  · exact ⟨rfl, by decide⟩
  · exact ⟨rfl, by decide⟩
theorem f_of (hX : Cl sc X) (hB : 5 ≤ B.1) {s : St} {f : FT} (hI : FIf s f) {e d w : Int32} (hq : ∀ f', FIf (sOf s e d w).2 f' → Q (some (.int (sOf s e d w).1)) (FWf fr0 f' [])) : X B 96 0 [some (.ref 0), some (.int e), some (.int d), some (.int w)] [] (FWf fr0 f []) Q := by
  obtain ⟨hn, H, T, a, b, P, Bo, G, Se, W, c1, c2, c3⟩ := f
  obtain ⟨i1, i2, i3, i4, i5, i6, i7, i8, i9⟩ := id hI
  have h8 := i2.1.1
  dsimp only at h8 i4
  obtain ⟨q1, q2⟩ := i4.pre
  have bad : ¬ (hsI e (s.2.1.length / 2) = 1 ∧ (d = 0 ∨ d = 1) ∧ ¬ w < 0 ∧ w < 4) → X B 96 27 [some (.ref 0), some (.int e), some (.int d), some (.int w)] [] (FWf fr0 (hn, H, T, a, b, P, Bo, G, Se, W, c1, c2, c3) []) Q := by
    intro h
    rw [sOf, if_neg h] at hq
    iterate 3 refine hX ?_
    refine c_bad hX (by omega) hI (fun f' h' => ?_)
    refine hX ?_
    exact hq f' h'
  iterate 4 refine hX ?_
  refine c_has hX (by omega) (k := s.2.1.length) (by omega) i4.1.2.1 ?_
  rcases hsI_or e (s.2.1.length / 2) with h | h
  · rw [h]
    exact hX (And.intro (fun _ => bad (fun q => by rw [h] at q; exact absurd q.1 (by decide))) (fun h => absurd rfl h))
  · rw [h]
    refine hX (And.intro (fun h => absurd h (by decide)) (fun _ => ?_))
    iterate 2 refine hX ?_
    refine cP [] [.int d] [] (some (.int (if d = 0 ∨ d = 1 then 1 else 0))) [.int (if d = 0 ∨ d = 1 then 1 else 0)] (by omega) rfl rfl rfl rfl (fun Q' hQ' => t_isSide hX hQ') ?_
    by_cases hd : d = 0 ∨ d = 1
    · rw [if_pos hd]
      refine hX (And.intro (fun h => absurd h (by decide)) (fun _ => ?_))
      iterate 2 refine hX ?_
      refine And.intro (fun h2 => bad (fun q => q.2.2.1 h2)) (fun h2 => ?_)
      iterate 3 refine hX ?_
      refine And.intro (fun h3 => ?_) (fun h3 => bad (fun q => h3 q.2.2.2))
      rw [sOf, if_pos ⟨h, hd, h2, h3⟩] at hq
      obtain ⟨i, rfl, hi, hc⟩ := hsI_is (by omega) h
      obtain ⟨k, rfl, hk, hkc⟩ := i_nat h2
      obtain ⟨dj, dk⟩ := d_nat hd
      rw [hc, hkc] at hq
      have hk4 : k < 4 := (nlt (b := 4) hk (by omega)).mp h3
      iterate 5 refine hX ?_
      rw [dj]
      refine And.intro trivial (cPw [.ref 0, .int (nI i), .int (nI d.toNatClampNeg), .int (nI k)] (some (.int (sfN (s.2.1.getD (2 * i + d.toNatClampNeg) []) k))) (by omega) rfl rfl rfl (fun Q' hQ' => t_sideFact hX (by show 4 ≤ B.1 - 1; omega) i2 i4.1 q2 hi dk hk4 hQ') ?_)
      refine hX ?_
      exact hq _ hI
    · rw [if_neg hd]
      exact hX (And.intro (fun _ => bad (fun q => hd q.2.1)) (fun h => absurd rfl h))
theorem hmN_L {L l : List Int32} {P : List (Nat × Nat)} (hL : L.take l.length = l) (hP : ∀ z ∈ P, pOK l z) (w : Int32) : hmN L P w = hmN l P w := by
  rw [hmN, hmN]
  congr 1
  refine List.filter_congr (fun z hz => ?_)
  obtain ⟨a, b⟩ := pOK_lt (hP z hz)
  rw [LgetD hL a, LgetD hL b]
theorem f_pairs (hX : Cl sc X) (hB : 5 ≤ B.1) {s : St} {f : FT} (hI : FIf s f) {w : Int32} (hq : ∀ f', FIf (sPairs s w).2 f' → Q (some (.int (sPairs s w).1)) (FWf fr0 f' [])) : X B 98 0 [some (.ref 0), some (.int w)] [] (FWf fr0 f []) Q := by
  obtain ⟨hn, H, T, ⟨L, S, N, D, C, sd, tt⟩, b, ⟨lf, rt, cn⟩, Bo, G, Se, W, c1, c2, c3⟩ := f
  obtain ⟨i1, i2, i3, ⟨i4, ⟨⟨s1, s2, s3, s4⟩, ⟨s5, s6⟩, s7, s8, s9⟩, i4b⟩, i5, i6, i7, i8, i9⟩ := id hI
  have h40 := i2.1.2.1
  dsimp only at s1 s2 s3 s4 s5 s6 i4b h40
  subst i4b
  have bad : ¬ (¬ w < 0 ∧ w < 4) → X B 98 9 [some (.ref 0), some (.int w)] [] (FWf fr0 (hn, H, T, (L, S, N, D, C, sd, tt), b, (lf, rt, nI (prs s.2.1.flatten s.2.1 0).length), Bo, G, Se, W, c1, c2, c3) []) Q := by
    intro h
    rw [sPairs, if_neg h] at hq
    iterate 3 refine hX ?_
    refine c_bad hX (by omega) hI (fun f' h' => ?_)
    refine hX ?_
    exact hq f' h'
  iterate 2 refine hX ?_
  refine And.intro (fun h => bad (fun q => q.1 h)) (fun h => ?_)
  iterate 3 refine hX ?_
  refine And.intro (fun h2 => ?_) (fun h2 => bad (fun q => h2 q.2))
  rw [sPairs, if_pos ⟨h, h2⟩, ← hmN_L s1.2.1 s6] at hq
  iterate 4 refine hX ?_
  refine And.intro trivial (cP rfP [.ref 0, .int w] (PaW L S N D C sd tt lf rt (nI (prs s.2.1.flatten s.2.1 0).length)) (some (.int (nI (hmN L (prs s.2.1.flatten s.2.1 0) w)))) [.int (nI (hmN L (prs s.2.1.flatten s.2.1 0) w))] (by omega) rfl rfl rfl rfl (fun Q' hQ' => t_howMany hX (by show 3 ≤ B.1 - 1; omega) s5 s1.1.1 (fun q hq2 => by have := pOK_lt (s6 q hq2); omega) hQ') ?_)
  refine hX ?_
  exact hq _ hI
end FE
