/-! FlexTerms: its heap, what it holds. -/
abbrev TxT : Type := List Int32 × List Int32 × Int32 × Int32 × Int32
abbrev PaT : Type := List Int32 × List Int32 × Int32
abbrev GrT : Type := List Int32 × List Int32 × List Int32 × List Int32 × List Int32 × List Int32 × List Int32 × List Int32 × List Int32 × Int32
abbrev SeT : Type := List Int32 × List Int32 × List Int32 × Int32 × Int32 × Int32
abbrev WrT : Type := List Int32 × List Int32 × Int32 × Int32
def FW (ra : List Value) (hn : Int32) (H : Nat → Eq7) (T : TxT) (a b : Eq7) (P Bo : PaT) (G : GrT) (Se : SeT) (W : WrT) (c1 c2 c3 : Int32) (z : pH) : pH :=
  .inr (10, [.ref 1, .ref 4, .ref 10, .ref 16, .ref 48, .ref 51, .ref 54, .ref 65, .ref 69, .int c1, .int c2, .int c3]) ::
  .inr (8, [.ref 2, .ref 3, .int T.2.2.1, .int T.2.2.2.1, .int T.2.2.2.2]) :: .inl T.1 :: .inl T.2.1 ::
  .inr (2, [.ref 5, .ref 6, .ref 7, .ref 8, .ref 9, .int a.2.2.2.2.2.1, .int a.2.2.2.2.2.2]) :: .inl a.1 :: .inl a.2.1 :: .inl a.2.2.1 :: .inl a.2.2.2.1 :: .inl a.2.2.2.2.1 ::
  .inr (2, [.ref 11, .ref 12, .ref 13, .ref 14, .ref 15, .int b.2.2.2.2.2.1, .int b.2.2.2.2.2.2]) :: .inl b.1 :: .inl b.2.1 :: .inl b.2.2.1 :: .inl b.2.2.2.1 :: .inl b.2.2.2.2.1 ::
  .inr (4, [.ref 17, .int hn]) :: .inr (50, ra) ::
  .inr (2, [.ref 19, .ref 20, .ref 21, .ref 22, .ref 23, .int (H 0).2.2.2.2.2.1, .int (H 0).2.2.2.2.2.2]) :: .inl (H 0).1 :: .inl (H 0).2.1 :: .inl (H 0).2.2.1 :: .inl (H 0).2.2.2.1 :: .inl (H 0).2.2.2.2.1 ::
  .inr (2, [.ref 25, .ref 26, .ref 27, .ref 28, .ref 29, .int (H 1).2.2.2.2.2.1, .int (H 1).2.2.2.2.2.2]) :: .inl (H 1).1 :: .inl (H 1).2.1 :: .inl (H 1).2.2.1 :: .inl (H 1).2.2.2.1 :: .inl (H 1).2.2.2.2.1 ::
  .inr (2, [.ref 31, .ref 32, .ref 33, .ref 34, .ref 35, .int (H 2).2.2.2.2.2.1, .int (H 2).2.2.2.2.2.2]) :: .inl (H 2).1 :: .inl (H 2).2.1 :: .inl (H 2).2.2.1 :: .inl (H 2).2.2.2.1 :: .inl (H 2).2.2.2.2.1 ::
  .inr (2, [.ref 37, .ref 38, .ref 39, .ref 40, .ref 41, .int (H 3).2.2.2.2.2.1, .int (H 3).2.2.2.2.2.2]) :: .inl (H 3).1 :: .inl (H 3).2.1 :: .inl (H 3).2.2.1 :: .inl (H 3).2.2.2.1 :: .inl (H 3).2.2.2.2.1 ::
  .inr (2, [.ref 43, .ref 44, .ref 45, .ref 46, .ref 47, .int (H 4).2.2.2.2.2.1, .int (H 4).2.2.2.2.2.2]) :: .inl (H 4).1 :: .inl (H 4).2.1 :: .inl (H 4).2.2.1 :: .inl (H 4).2.2.2.1 :: .inl (H 4).2.2.2.2.1 ::
  .inr (6, [.ref 4, .ref 49, .ref 50, .int P.2.2]) :: .inl P.1 :: .inl P.2.1 ::
  .inr (0, [.ref 52, .ref 53, .int Bo.2.2]) :: .inl Bo.1 :: .inl Bo.2.1 ::
  .inr (3, [.ref 4, .ref 55, .ref 60, .ref 61, .ref 62, .ref 63, .ref 64, .int G.2.2.2.2.2.2.2.2.2]) :: .inr (1, [.ref 56, .ref 57, .ref 58, .ref 59]) :: .inl G.1 :: .inl G.2.1 :: .inl G.2.2.1 :: .inl G.2.2.2.1 :: .inl G.2.2.2.2.1 :: .inl G.2.2.2.2.2.1 :: .inl G.2.2.2.2.2.2.1 :: .inl G.2.2.2.2.2.2.2.1 :: .inl G.2.2.2.2.2.2.2.2.1 ::
  .inr (7, [.ref 4, .ref 48, .ref 51, .ref 54, .ref 66, .ref 67, .ref 68, .int Se.2.2.2.1, .int Se.2.2.2.2.1, .int Se.2.2.2.2.2]) :: .inl Se.1 :: .inl Se.2.1 :: .inl Se.2.2.1 ::
  .inr (9, [.ref 70, .ref 71, .int W.2.2.1, .int W.2.2.2]) :: .inl W.1 :: .inl W.2.1 :: z
abbrev rfT : List Nat := [1, 2, 3]
abbrev rfN : List Nat := [4, 5, 6, 7, 8, 9]
abbrev rfTR : List Nat := [1, 2, 3, 10, 11, 12, 13, 14, 15]
abbrev rfH : List Nat := [16, 17, 18, 19, 20, 21, 22, 23, 24, 25, 26, 27, 28, 29, 30, 31, 32, 33, 34, 35, 36, 37, 38, 39, 40, 41, 42, 43, 44, 45, 46, 47, 4, 5, 6, 7, 8, 9]
abbrev rfHc : List Nat := [16, 17]
abbrev rfNR : List Nat := [4, 5, 6, 7, 8, 9, 10, 11, 12, 13, 14, 15]
abbrev rfP : List Nat := [48, 4, 5, 6, 7, 8, 9, 49, 50]
abbrev rfB : List Nat := [51, 52, 53]
abbrev rfG : List Nat := [54, 4, 5, 6, 7, 8, 9, 55, 56, 57, 58, 59, 60, 61, 62, 63, 64]
abbrev rfS : List Nat := [65, 4, 5, 6, 7, 8, 9, 48, 49, 50, 51, 52, 53, 54, 55, 56, 57, 58, 59, 60, 61, 62, 63, 64, 66, 67, 68]
abbrev rfW : List Nat := [69, 70, 71]
abbrev rfWN : List Nat := [69, 70, 71, 4, 5, 6, 7, 8, 9]
abbrev rf72 : List Nat := [0, 1, 2, 3, 4, 5, 6, 7, 8, 9, 10, 11, 12, 13, 14, 15, 16, 17, 18, 19, 20, 21, 22, 23, 24, 25, 26, 27, 28, 29, 30, 31, 32, 33, 34, 35, 36, 37, 38, 39, 40, 41, 42, 43, 44, 45, 46, 47, 48, 49, 50, 51, 52, 53, 54, 55, 56, 57, 58, 59, 60, 61, 62, 63, 64, 65, 66, 67, 68, 69, 70, 71]
abbrev fr0 : List Value := [.ref 18, .ref 24, .ref 30, .ref 36, .ref 42]
abbrev fr1 : List Value := [.ref 24, .ref 30, .ref 36, .ref 42, .ref 18]
/-- EQUATIONS as they may stand -/
def gE (E : List (List Int32)) : Prop := (E.length ≤ 8 ∧ E.flatten.length ≤ 40 ∧ E.length % 2 = 0) ∧ (∀ t ∈ E, okF t 1 = true) ∧ ∀ c ∈ E.flatten, ¬ kdI c = -1
theorem pst_letters {σ σ' : pS} {c : Int32} (h : ∀ d ∈ σ.1.flatten ++ σ.2.1, ¬ kdI d = -1) (hs : pst σ c = some σ') : ∀ d ∈ σ'.1.flatten ++ σ'.2.1, ¬ kdI d = -1 := by
  obtain ⟨E, cur, s, aw⟩ := σ
  unfold pst at hs
  dsimp only at hs h
  split at hs
  · split at hs
    · cases hs
    · rename_i hk
      rw [not_or] at hk
      have key : ∀ d ∈ E.flatten ++ (cur ++ [c]), ¬ kdI d = -1 := by
        intro d hd
        rw [← List.append_assoc, List.mem_append, List.mem_singleton] at hd
        rcases hd with hd | rfl
        · exact h d hd
        · exact hk.1
      split at hs <;> cases hs <;> exact key
  · split at hs
    · split at hs
      · cases hs; exact h
      · cases hs
    · split at hs
      · split at hs
        · split at hs
          · cases hs; exact h
          · cases hs
        · split at hs
          · cases hs; exact h
          · cases hs
      · have key : ∀ d ∈ (E ++ [cur]).flatten ++ [], ¬ kdI d = -1 := by
          intro d hd
          rw [List.append_nil, List.flatten_append, List.flatten_cons, List.flatten_nil, List.append_nil] at hd
          exact h d hd
        split at hs
        · split at hs
          · cases hs; exact key
          · cases hs
        · split at hs
          · cases hs; exact key
          · cases hs
theorem parse_letters : ∀ (l : List Int32) (i : Nat) (σ : pS), (∀ d ∈ σ.1.flatten ++ σ.2.1, ¬ kdI d = -1) → ∀ E, parse l i σ = .inr E → ∀ d ∈ E.flatten, ¬ kdI d = -1
  | [], i, σ, h, E, he => by
    rw [parse] at he
    split at he
    · cases he
      exact fun d hd => h d (List.mem_append_left _ hd)
    · cases he
  | c :: r, i, σ, h, E, he => by
    rw [parse] at he
    split at he
    · exact parse_letters r _ σ h E he
    · cases hp : pst σ c with
      | none => rw [hp] at he; cases he
      | some σ' => rw [hp] at he; exact parse_letters r _ σ' (pst_letters h hp) E he
def bsA : List (List Nat) := [[3], [3], [3], [3], [3], [3], [3], [4], [5, 1], [6, 1, 2]]
theorem prs_ok {E : List (List Int32)} (h : gE E) : ∀ z ∈ prs E.flatten E 0, pOK E.flatten z := by
  have hr : rig bsA := by
    have : ∀ k, k < 10 → 6 ≤ k → bsA.getD k [] = bs0.getD k [] := by decide
    exact fun k h6 h10 => this k h10 h6
  have hv : ∀ c ∈ E.flatten, vC bsA c ∧ ¬ kdI c = -1 := by
    intro c hc
    have hk := h.2.2 c hc
    refine ⟨vC_of hr (st := List.range 6) ?_ hk (fun hf => List.mem_range.mpr (fx_kN hf).2.2), hk⟩
    intro y hy
    have hy6 := List.mem_range.mp hy
    have key : ∀ y, y < 6 → bsA.getD y [] = [3] := by decide
    rw [key y hy6]
    exact ⟨⟨⟨by decide, by decide⟩, fun _ => rfl, fun _ => rfl⟩, rfl⟩
  exact (prs_spec hr E.length E (Nat.le_refl _) 0 rfl h.2.1 h.1.2.1 hv).2
/-- SOLUTIONS are known, or aren't -/
def kwn (E : List (List Int32)) (A : List (List (List Nat))) (Se : SeT) : Prop := Se.2.2.2.2.2 = 0 ∨ (Se.2.2.2.2.2 = 1 ∧ A = sols E ∧ Se.2.2.2.2.1 = nI A.length)
def FIs (E : List (List Int32)) (a : Eq7) (P Bo : PaT) (G : GrT) : Prop := is7 E a ∧ SC E (prs E.flatten E 0) a.1 a.2.1 a.2.2.1 a.2.2.2.1 a.2.2.2.2.1 P.1 P.2.1 Bo.1 Bo.2.1 G.2.2.2.2.1 G.2.2.2.2.2.1 ∧ P.2.2 = nI (prs E.flatten E 0).length
def FIg (E : List (List Int32)) (G : GrT) (Se : SeT) (bs : List (List Nat)) (A : List (List (List Nat))) : Prop := LKs E bs A G.1 G.2.1 G.2.2.1 G.2.2.2.1 G.2.2.2.2.2.2.1 G.2.2.2.2.2.2.2.1 G.2.2.2.2.2.2.2.2.1 Se.2.2.1 ∧ Se.1.length = 6 ∧ Se.2.1.length = 20
def FIt (tx : List Int32) (T : TxT) (b : Eq7) : Prop := (tx.length ≤ 120 ∧ T.1.length = 120 ∧ T.1.take tx.length = tx ∧ T.2.2.1 = nI tx.length) ∧ TxK T.2.1 b.1 b.2.1 ∧ len7 b
def FIh (hs : List (List (List Int32))) (hn : Int32) (H : Nat → Eq7) : Prop := (hs.length ≤ 5 ∧ hn = nI hs.length) ∧ (∀ i, i < 5 → len7 (H i)) ∧ ∀ i, i < hs.length → gE (hs.getD i []) ∧ is7 (hs.getD i []) (H i)
/-- what a FlexTerms holds: THE TEXT, EQUATIONS, those before, how many calls were refused -/
def FI (tx : List Int32) (E : List (List Int32)) (hs : List (List (List Int32))) (bd no fu : Nat) (hn : Int32) (H : Nat → Eq7) (T : TxT) (a b : Eq7) (P Bo : PaT) (G : GrT) (Se : SeT) (W : WrT) (c1 c2 c3 : Int32) : Prop :=
  FIt tx T b ∧ gE E ∧ FIh hs hn H ∧ FIs E a P Bo G ∧ (∃ bs A, FIg E G Se bs A ∧ kwn E A Se) ∧ (W.1.length = 160 ∧ W.2.1.length = 40) ∧ c1 = nI bd ∧ c2 = nI no ∧ c3 = nI fu
theorem is7_len {E : List (List Int32)} {a : Eq7} (h : is7 E a) (hm : mOK E.flatten a.2.2.1 a.2.2.2.1 a.2.2.2.2.1) : len7 a := ⟨⟨h.1.1.1, h.1.1.2.1⟩, hm.1⟩
/-- what rows of PAIRS, of GROWTH must be before they are laid -/
def preA (P Bo : PaT) (G : GrT) : Prop := (P.1.length = 20 ∧ P.2.1.length = 20) ∧ (G.2.2.2.2.1.length = 40 ∧ G.2.2.2.2.2.1.length = 40) ∧ tbR (BTf 18) Bo.1 ∧ fsR 19 Bo.2.1
theorem FIs.pre {E : List (List Int32)} {a : Eq7} {P Bo : PaT} {G : GrT} (h : FIs E a P Bo G) : preA P Bo G ∧ mOK E.flatten a.2.2.1 a.2.2.2.1 a.2.2.2.2.1 := by
  obtain ⟨h1, ⟨⟨s1, s2, s3, s4⟩, ⟨s5, s6⟩, s7, s8, s9⟩, h3⟩ := h
  exact ⟨⟨⟨s5.1.1, s5.1.2.1⟩, s8, s7⟩, s2⟩
section FA
variable {sc : List Int32} {X : pX} {B : pB} {Q : pQ} {ra : List Value} {hn : Int32} {H : Nat → Eq7} {T : TxT} {a b : Eq7} {P Bo : PaT} {G : GrT} {Se : SeT} {W : WrT} {c1 c2 c3 : Int32} {E : List (List Int32)}
theorem t_arrange (hX : Cl sc X) (hB : 4 ≤ B.1) (hg : gE E) (ha : is7 E a) (hm : mOK E.flatten a.2.2.1 a.2.2.2.1 a.2.2.2.2.1) (hp : preA P Bo G) (hq : ∀ lf rt cn kn sn, FIs E a (lf, rt, cn) Bo (G.1, G.2.1, G.2.2.1, G.2.2.2.1, kn, sn, G.2.2.2.2.2.2) → Q none (FW ra hn H T a b (lf, rt, cn) Bo (G.1, G.2.1, G.2.2.1, G.2.2.2.1, kn, sn, G.2.2.2.2.2.2) Se W c1 c2 c3 [])) : X B 111 0 [some (.ref 0)] [] (FW ra hn H T a b P Bo G Se W c1 c2 c3 []) Q := by
  obtain ⟨L, S, N, D, C, sd, tt⟩ := a
  obtain ⟨lf, rt, cn⟩ := P
  obtain ⟨bw, bf, bn⟩ := Bo
  obtain ⟨w, p, o, t, kn, sn, sz, pl, gw, us⟩ := G
  obtain ⟨hE, h1, h2⟩ := id ha
  dsimp only at hE h1 h2 hm hq
  subst h1 h2
  obtain ⟨p1, p2, p3⟩ := id hp
  have hE1 := hE.1
  iterate 3 refine hX ?_
  refine And.intro trivial (cMs rfP [.ref 0] (PaW L S N D C (nI E.length) (nI E.flatten.length) lf rt cn) (fun u : List Int32 × List Int32 => paI (prs E.flatten E 0) u.1 u.2) (fun _ => none) (fun u => PaW L S N D C (nI E.length) (nI E.flatten.length) u.1 u.2 (nI (prs E.flatten E 0).length)) (fun u => FW ra hn H T (L, S, N, D, C, nI E.length, nI E.flatten.length) b (u.1, u.2, nI (prs E.flatten E 0).length) (bw, bf, bn) (w, p, o, t, kn, sn, sz, pl, gw, us) Se W c1 c2 c3 []) (by omega) rfl rfl rfl (fun _ => rfl) (fun _ => rfl) (fun _ => rfl) (fun Q' hQ' => t_takeApart hX (by show 3 ≤ B.1 - 1; omega) hE hm hg.1.2.2 p1 (fun lf rt h => hQ' (lf, rt) h)) (fun u hu => ?_))
  iterate 3 refine hX ?_
  refine And.intro trivial (cMs rfG [.ref 0] (GrW L S N D C (nI E.length) (nI E.flatten.length) w p o t kn sn sz pl gw us) (fun v : List Int32 × List Int32 => (v.1.length = 40 ∧ v.2.length = 40) ∧ ∀ q, q < 40 → v.1.getD q 0 = kdI (L.getD q 0) ∧ v.2.getD q 0 = C.getD q 0) (fun _ => none) (fun v => GrW L S N D C (nI E.length) (nI E.flatten.length) w p o t v.1 v.2 sz pl gw us) (fun v => FW ra hn H T (L, S, N, D, C, nI E.length, nI E.flatten.length) b (u.1, u.2, nI (prs E.flatten E 0).length) (bw, bf, bn) (w, p, o, t, v.1, v.2, sz, pl, gw, us) Se W c1 c2 c3 []) (by omega) rfl rfl rfl (fun _ => rfl) (fun _ => rfl) (fun _ => rfl) (fun Q' hQ' => t_prepare hX (by show 2 ≤ B.1 - 1; omega) hE1.1 hm.1.2.2 p2 (fun kn sn a b c => hQ' (kn, sn) ⟨⟨a, b⟩, c⟩)) (fun v hv => ?_))
  refine hX ?_
  refine hq u.1 u.2 (nI (prs E.flatten E 0).length) v.1 v.2 ⟨ha, ⟨⟨hE, hm, hg.1.2.2, hg.2.2⟩, ⟨hu, prs_ok hg⟩, p3, hv.1, fun q hq2 => ?_⟩, rfl⟩
  have h40 := hg.1.2.1
  obtain ⟨k1, k2⟩ := hv.2 q (by omega)
  refine ⟨?_, by rw [k2]; exact (hm.2 q hq2).2.2⟩
  rw [k1, LgetD hE.2.1 hq2]
  exact (kN_ok (hg.2.2 _ (getD_mem hq2))).1
end FA
