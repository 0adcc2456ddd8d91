/-! FlexTerms: SOLUTIONS told. -/
theorem sols_mem {E : List (List Int32)} {bs : List (List Nat)} (h : bs ∈ sols E) : (∃ s, (std E.flatten).length ≤ s ∧ s ≤ 6 ∧ bs ∈ enum (std E.flatten) s bs0) ∧ slv bs E = true ∧ (bs.length = 10 ∧ rig bs) ∧ chs bs (std E.flatten) ∧ ∀ y, y < 6 → bOk (bs.getD y []) := by
  obtain ⟨t1, t2, t3, t4⟩ := std_ok E.flatten
  have h1 := List.mem_filter.mp (List.mem_of_mem_take h)
  obtain ⟨s, hs, hb⟩ := List.mem_flatMap.mp h1.1
  have hs2 := List.mem_range'_1.mp hs
  obtain ⟨e1, e2, e3, e4⟩ := enum_ok t2 t3 (s := s) (by omega) hb
  refine ⟨⟨s, by omega, by omega, hb⟩, h1.2, ⟨e1, e2⟩, e3, fun y hy => ?_⟩
  by_cases hm : y ∈ std E.flatten
  · exact (e3 y hm).1.1
  · rw [e4 y hy hm]
    exact ⟨by simp, fun c hc => by simp at hc⟩
theorem sols_le (E : List (List Int32)) : (sols E).length ≤ 40 := by
  rw [sols, List.length_take]; omega
def sSolutions (s : St) : Int32 × St := (nI (sols s.2.1).length, s)
def sSize (s : St) (i : Int32) : Int32 × St := if i < 0 then sBad s else if i.toNatClampNeg < (sols s.2.1).length then (nI (szB ((sols s.2.1).getD i.toNatClampNeg []) 6), s) else sNo s
def bdK (b : List Nat) (k : Int32) : Int32 := if b = [] then -5 else if k = -1 then nI b.length else tlK (wS (b.map ltN) []).1 k
def sBody (s : St) (i x k : Int32) : Int32 × St := if ¬ i < 0 ∧ ¬ x < 0 ∧ x < 6 ∧ -1 ≤ k then (if i.toNatClampNeg < (sols s.2.1).length then (bdK (((sols s.2.1).getD i.toNatClampNeg []).getD x.toNatClampNeg []) k, s) else sNo s) else sBad s
def sBecomes (s : St) (i e d k : Int32) : Int32 × St := if ¬ i < 0 ∧ hsI e (s.2.1.length / 2) = 1 ∧ (d = 0 ∨ d = 1) ∧ -1 ≤ k then (if i.toNatClampNeg < (sols s.2.1).length then (tlK (grw ((sols s.2.1).getD i.toNatClampNeg []) (s.2.1.getD (2 * e.toNatClampNeg + d.toNatClampNeg) [])) k, s) else sNo s) else sBad s
/-- SOLUTIONS are known -/
def FK (s : St) (f : FT) : Prop := FIf s f ∧ f.2.2.2.2.2.2.2.2.1.2.2.2.2.2 = 1 ∧ f.2.2.2.2.2.2.2.2.1.2.2.2.2.1 = nI (sols s.2.1).length ∧ slR (sols s.2.1) f.2.2.2.2.2.2.2.2.1.2.2.1
theorem k_nat {k : Int32} (h2 : -1 ≤ k) (h3 : ¬ k = -1) : ∃ n, k = nI n ∧ n < 2147483648 ∧ k.toNatClampNeg = n := by
  refine i_nat (fun q => h3 ?_)
  have a1 := Int32.le_iff_toInt_le.mp h2
  have a2 := Int32.lt_iff_toInt_lt.mp q
  apply Int32.toInt_inj.mp
  have e1 : (-1 : Int32).toInt = -1 := by decide
  have e2 : (0 : Int32).toInt = 0 := by decide
  rw [e1] at a1 ⊢
  rw [e2] at a2
  omega
section FG
variable {sc : List Int32} {X : pX} {B : pB} {Q : pQ}
theorem c_found (hX : Cl sc X) (hB : 14 ≤ B.1) {me n : Nat} {ls : pL} {st' : List Value} {s : St} {f : FT} (hI : FIf s f) (hck : ckC rfS [.ref 0] (.ref 65 :: st') 1 3 = true) (hq : ∀ f', FK s f' → X B me n ls (.int (nI (sols s.2.1).length) :: st') (FWf fr0 f' []) Q) : oCallV 64 7 1 3 n X B me ls (.ref 65 :: st') (FWf fr0 f []) Q := by
  obtain ⟨hn, H, T, ⟨L, S, N, D, C, sd, tt⟩, b, ⟨lf, rt, cn⟩, ⟨bw, bf, bn⟩, ⟨w, p, o, t, kn, sn, sz, pl, gw, us⟩, ⟨stn, lst, ws, le, ct, kw⟩, W, c1, c2, c3⟩ := f
  obtain ⟨i1, i2, i3, ⟨⟨j1, j2, j3⟩, i4, i4b⟩, ⟨bs, A, ⟨i5, i5a, i5b⟩, i5'⟩, i6, i7, i8, i9⟩ := id hI
  dsimp only at j1 j2 j3 i4 i4b i5 i5a i5b i5'
  subst j2 j3 i4b
  rcases i5' with k | ⟨k1, k2, k3⟩
  · dsimp only at k
    subst k
    refine And.intro trivial (cMs rfS [.ref 0] (SeW L S N D C (nI s.2.1.length) (nI s.2.1.flatten.length) lf rt (nI (prs s.2.1.flatten s.2.1 0).length) bw bf bn w p o t kn sn sz pl gw us stn lst ws le ct 0) (fun v : List (List Nat) × List Int32 × List Int32 × List Int32 × List Int32 × List Int32 × List Int32 × List Int32 × Int32 × List Int32 × List Int32 × List Int32 × Int32 => LKs s.2.1 v.1 (sols s.2.1) v.2.1 v.2.2.1 v.2.2.2.1 v.2.2.2.2.1 v.2.2.2.2.2.1 v.2.2.2.2.2.2.1 v.2.2.2.2.2.2.2.1 v.2.2.2.2.2.2.2.2.2.2.2.1 ∧ v.2.2.2.2.2.2.2.2.2.1.length = 6 ∧ v.2.2.2.2.2.2.2.2.2.2.1.length = 20) (fun _ => some (.int (nI (sols s.2.1).length))) (fun v => SeW L S N D C (nI s.2.1.length) (nI s.2.1.flatten.length) lf rt (nI (prs s.2.1.flatten s.2.1 0).length) bw bf bn v.2.1 v.2.2.1 v.2.2.2.1 v.2.2.2.2.1 kn sn v.2.2.2.2.2.1 v.2.2.2.2.2.2.1 v.2.2.2.2.2.2.2.1 v.2.2.2.2.2.2.2.2.1 v.2.2.2.2.2.2.2.2.2.1 v.2.2.2.2.2.2.2.2.2.2.1 v.2.2.2.2.2.2.2.2.2.2.2.1 v.2.2.2.2.2.2.2.2.2.2.2.2 (nI (sols s.2.1).length) 1) (fun v => FW fr0 hn H T (L, S, N, D, C, nI s.2.1.length, nI s.2.1.flatten.length) b (lf, rt, nI (prs s.2.1.flatten s.2.1 0).length) (bw, bf, bn) (v.2.1, v.2.2.1, v.2.2.2.1, v.2.2.2.2.1, kn, sn, v.2.2.2.2.2.1, v.2.2.2.2.2.2.1, v.2.2.2.2.2.2.2.1, v.2.2.2.2.2.2.2.2.1) (v.2.2.2.2.2.2.2.2.2.1, v.2.2.2.2.2.2.2.2.2.2.1, v.2.2.2.2.2.2.2.2.2.2.2.1, v.2.2.2.2.2.2.2.2.2.2.2.2, nI (sols s.2.1).length, 1) W c1 c2 c3 []) (by omega) hck rfl rfl (fun _ => rfl) (fun _ => rfl) (fun _ => rfl) (fun Q' hQ' => t_found0 hX (by show 13 ≤ B.1 - 1; omega) i4 rfl rfl i5 i5a i5b (fun bs w p o t sz pl gw us stn lst ws le a b c => hQ' (bs, w, p, o, t, sz, pl, gw, us, stn, lst, ws, le) ⟨a, b, c⟩)) (fun v hv => ?_))
    obtain ⟨bs2, w2, p2, o2, t2, sz2, pl2, gw2, us2, stn2, lst2, ws2, le2⟩ := v
    obtain ⟨v1, v2, v3⟩ := hv
    dsimp only at v1 v2 v3
    exact hq (hn, H, T, (L, S, N, D, C, nI s.2.1.length, nI s.2.1.flatten.length), b, (lf, rt, nI (prs s.2.1.flatten s.2.1 0).length), (bw, bf, bn), (w2, p2, o2, t2, kn, sn, sz2, pl2, gw2, us2), (stn2, lst2, ws2, le2, nI (sols s.2.1).length, 1), W, c1, c2, c3) ⟨⟨i1, i2, i3, ⟨⟨j1, rfl, rfl⟩, i4, rfl⟩, ⟨bs2, sols s.2.1, ⟨v1, v2, v3⟩, Or.inr ⟨rfl, rfl, rfl⟩⟩, i6, i7, i8, i9⟩, rfl, rfl, v1.2.2⟩
  · dsimp only at k1 k3
    subst k1 k2 k3
    refine And.intro trivial (cMs rfS [.ref 0] (SeW L S N D C (nI s.2.1.length) (nI s.2.1.flatten.length) lf rt (nI (prs s.2.1.flatten s.2.1 0).length) bw bf bn w p o t kn sn sz pl gw us stn lst ws le (nI (sols s.2.1).length) 1) (fun _ : Unit => True) (fun _ => some (.int (nI (sols s.2.1).length))) (fun _ => SeW L S N D C (nI s.2.1.length) (nI s.2.1.flatten.length) lf rt (nI (prs s.2.1.flatten s.2.1 0).length) bw bf bn w p o t kn sn sz pl gw us stn lst ws le (nI (sols s.2.1).length) 1) (fun _ => FW fr0 hn H T (L, S, N, D, C, nI s.2.1.length, nI s.2.1.flatten.length) b (lf, rt, nI (prs s.2.1.flatten s.2.1 0).length) (bw, bf, bn) (w, p, o, t, kn, sn, sz, pl, gw, us) (stn, lst, ws, le, nI (sols s.2.1).length, 1) W c1 c2 c3 []) (by omega) hck rfl rfl (fun _ => rfl) (fun _ => rfl) (fun _ => rfl) (fun Q' hQ' => t_found1 hX (hQ' () trivial)) (fun _ _ => ?_))
    exact hq (hn, H, T, (L, S, N, D, C, nI s.2.1.length, nI s.2.1.flatten.length), b, (lf, rt, nI (prs s.2.1.flatten s.2.1 0).length), (bw, bf, bn), (w, p, o, t, kn, sn, sz, pl, gw, us), (stn, lst, ws, le, nI (sols s.2.1).length, 1), W, c1, c2, c3) ⟨hI, rfl, rfl, i5.2.2⟩
theorem f_solutions (hX : Cl sc X) (hB : 15 ≤ B.1) {s : St} {f : FT} (hI : FIf s f) (hq : ∀ f', FIf (sSolutions s).2 f' → Q (some (.int (sSolutions s).1)) (FWf fr0 f' [])) : X B 100 0 [some (.ref 0)] [] (FWf fr0 f []) Q := by
  iterate 3 refine hX ?_
  refine c_found hX (by omega) hI rfl (fun f' h' => ?_)
  refine hX ?_
  exact hq f' h'.1
theorem c_sizeOf (hX : Cl sc X) (hB : 4 ≤ B.1) {me n : Nat} {ls : pL} {st' : List Value} {s : St} {f : FT} (hK : FK s f) {i : Nat} (hi : i < (sols s.2.1).length) (hck : ckC rfS [.ref 0, .int (nI i)] (.int (nI i) :: .ref 65 :: st') 2 4 = true) (hq : X B me n ls (.int (nI (szB ((sols s.2.1).getD i []) 6)) :: st') (FWf fr0 f []) Q) : oCallV 66 7 2 4 n X B me ls (.int (nI i) :: .ref 65 :: st') (FWf fr0 f []) Q := by
  obtain ⟨hn, H, T, a, b, P, Bo, G, Se, W, c1, c2, c3⟩ := f
  obtain ⟨hI, k1, k2, k3⟩ := hK
  obtain ⟨-, -, -, -, hok⟩ := sols_mem (getD_mem (d := []) hi)
  exact And.intro trivial (cP rfS [.ref 0, .int (nI i)] (SeW a.1 a.2.1 a.2.2.1 a.2.2.2.1 a.2.2.2.2.1 a.2.2.2.2.2.1 a.2.2.2.2.2.2 P.1 P.2.1 P.2.2 Bo.1 Bo.2.1 Bo.2.2 G.1 G.2.1 G.2.2.1 G.2.2.2.1 G.2.2.2.2.1 G.2.2.2.2.2.1 G.2.2.2.2.2.2.1 G.2.2.2.2.2.2.2.1 G.2.2.2.2.2.2.2.2.1 G.2.2.2.2.2.2.2.2.2 Se.1 Se.2.1 Se.2.2.1 Se.2.2.2.1 Se.2.2.2.2.1 Se.2.2.2.2.2) (some (.int (nI (szB ((sols s.2.1).getD i []) 6)))) (.int (nI (szB ((sols s.2.1).getD i []) 6)) :: st') (by omega) hck rfl rfl rfl (fun Q' hQ' => t_sizeOf hX (by show 2 ≤ B.1 - 1; omega) k3 hi hok hQ') hq)
theorem c_wordOf (hX : Cl sc X) (hB : 2 ≤ B.1) {me n : Nat} {ls : pL} {st' : List Value} {s : St} {f : FT} (hK : FK s f) {i x : Nat} (hi : i < (sols s.2.1).length) (hx : x < 6) (hck : ckC rfS [.ref 0, .int (nI i), .int (nI x)] (.int (nI x) :: .int (nI i) :: .ref 65 :: st') 3 3 = true) (hq : X B me n ls (.int (nI (wC (((sols s.2.1).getD i []).getD x []))) :: st') (FWf fr0 f []) Q) : oCallV 65 7 3 3 n X B me ls (.int (nI x) :: .int (nI i) :: .ref 65 :: st') (FWf fr0 f []) Q := by
  obtain ⟨hn, H, T, a, b, P, Bo, G, Se, W, c1, c2, c3⟩ := f
  obtain ⟨hI, k1, k2, k3⟩ := hK
  exact And.intro trivial (cP rfS [.ref 0, .int (nI i), .int (nI x)] (SeW a.1 a.2.1 a.2.2.1 a.2.2.2.1 a.2.2.2.2.1 a.2.2.2.2.2.1 a.2.2.2.2.2.2 P.1 P.2.1 P.2.2 Bo.1 Bo.2.1 Bo.2.2 G.1 G.2.1 G.2.2.1 G.2.2.2.1 G.2.2.2.2.1 G.2.2.2.2.2.1 G.2.2.2.2.2.2.1 G.2.2.2.2.2.2.2.1 G.2.2.2.2.2.2.2.2.1 G.2.2.2.2.2.2.2.2.2 Se.1 Se.2.1 Se.2.2.1 Se.2.2.2.1 Se.2.2.2.2.1 Se.2.2.2.2.2) (some (.int (nI (wC (((sols s.2.1).getD i []).getD x []))))) (.int (nI (wC (((sols s.2.1).getD i []).getD x []))) :: st') (by omega) hck rfl rfl rfl (fun Q' hQ' => t_wordOf hX k3 hi hx hQ') hq)
theorem f_size (hX : Cl sc X) (hB : 15 ≤ B.1) {s : St} {f : FT} (hI : FIf s f) {i : Int32} (hq : ∀ f', FIf (sSize s i).2 f' → Q (some (.int (sSize s i).1)) (FWf fr0 f' [])) : X B 101 0 [some (.ref 0), some (.int i)] [] (FWf fr0 f []) Q := by
  have h40 := sols_le s.2.1
  rw [sSize] at hq
  iterate 2 refine hX ?_
  refine And.intro (fun h => ?_) (fun h => ?_)
  · have h0 : ¬ i < 0 := Int32.not_lt.mpr h
    rw [if_neg h0] at hq
    obtain ⟨k, rfl, hk, hkc⟩ := i_nat h0
    rw [hkc] at hq
    iterate 4 refine hX ?_
    refine c_found hX (by omega) hI rfl (fun f' h' => ?_)
    refine hX (And.intro (fun h2 => ?_) (fun h2 => ?_))
    · have hl := (nlt hk (by omega)).mp h2
      rw [if_pos hl] at hq
      iterate 4 refine hX ?_
      refine c_sizeOf hX (by omega) h' hl rfl ?_
      refine hX ?_
      exact hq f' h'.1
    · rw [if_neg (fun q => h2 ((nlt hk (by omega)).mpr q))] at hq
      iterate 3 refine hX ?_
      refine c_no hX (by omega) h'.1 (fun f' h' => ?_)
      refine hX ?_
      exact hq f' h'
  · rw [if_pos (Int32.not_le.mp h)] at hq
    iterate 3 refine hX ?_
    refine c_bad hX (by omega) hI (fun f' h' => ?_)
    refine hX ?_
    exact hq f' h'
theorem wC_zero {b : List Nat} (h : bOk b) : wC b = 0 ↔ b = [] := by
  constructor
  · intro hw
    cases b with
    | nil => rfl
    | cons c r =>
      rw [wC] at hw
      have := h.2 c List.mem_cons_self
      omega
  · rintro rfl; rfl
theorem wC_lt31 {b : List Nat} (h : bOk b) : wC b < 2147483648 := by
  have h1 := wC_lt b h.2
  have h2 : 2 ^ (3 * b.length) ≤ 2 ^ 18 := Nat.pow_le_pow_right (by omega) (by have := h.1; omega)
  omega
theorem c_putBody (hX : Cl sc X) (hB : 4 ≤ B.1) {me n : Nat} {ls : pL} {s : St} {f : FT} (hK : FK s f) (hw : f.2.2.2.2.2.2.2.2.2.1.2.2 = (0, 0)) {b : List Nat} (hb : bOk b) (hq : ∀ f', FK s f' → wrR (wS (b.map ltN) []).1 f'.2.2.2.2.2.2.2.2.2.1.1 → f'.2.2.2.2.2.2.2.2.2.1.2.2.1 = nI (wS (b.map ltN) []).1.length → X B me n ls [] (FWf fr0 f' []) Q) : oCallV 86 9 2 3 n X B me ls [.int (nI (wC b)), .ref 69] (FWf fr0 f []) Q := by
  obtain ⟨hn, H, T, a, b2, P, Bo, G, Se, ⟨wb, wp, wl, wd⟩, c1, c2, c3⟩ := f
  obtain ⟨⟨i1, i2, i3, i4, i5, i6, i7, i8, i9⟩, k1, k2, k3⟩ := hK
  dsimp only at hw i6
  cases hw
  refine And.intro trivial (cMs rfW [.ref 0, .int (nI (wC b))] (WrW wb wp 0 0) (fun u : List Int32 × List Int32 × Int32 => wrR (wS (b.map ltN) []).1 u.1 ∧ u.2.1.length = 40) (fun _ => none) (fun u => WrW u.1 u.2.1 (nI (wS (b.map ltN) []).1.length) u.2.2) (fun u => FW fr0 hn H T a b2 P Bo G Se (u.1, u.2.1, nI (wS (b.map ltN) []).1.length, u.2.2) c1 c2 c3 []) (by omega) rfl rfl rfl (fun _ => rfl) (fun _ => rfl) (fun _ => rfl) (fun Q' hQ' => t_putBody hX (by show 3 ≤ B.1 - 1; omega) hb i6.1 i6.2 (fun by2 pl2 dp h1 h2 => hQ' (by2, pl2, dp) ⟨h1, h2⟩)) (fun u hu => ?_))
  exact hq (hn, H, T, a, b2, P, Bo, G, Se, (u.1, u.2.1, nI (wS (b.map ltN) []).1.length, u.2.2), c1, c2, c3) ⟨⟨i1, i2, i3, i4, i5, ⟨hu.1.1, hu.2⟩, i7, i8, i9⟩, k1, k2, k3⟩ hu.1 rfl
theorem c_begin (hX : Cl sc X) (hB : 1 ≤ B.1) {me n : Nat} {ls : pL} {s : St} {f : FT} (hK : FK s f) (hq : ∀ f', FK s f' → f'.2.2.2.2.2.2.2.2.2.1.2.2 = (0, 0) → X B me n ls [] (FWf fr0 f' []) Q) : oCallV 82 9 1 1 n X B me ls [.ref 69] (FWf fr0 f []) Q := by
  obtain ⟨hn, H, T, a, b2, P, Bo, G, Se, ⟨wb, wp, wl, wd⟩, c1, c2, c3⟩ := f
  obtain ⟨⟨i1, i2, i3, i4, i5, i6, i7, i8, i9⟩, k1, k2, k3⟩ := hK
  refine And.intro trivial (cMs rfW [.ref 0] (WrW wb wp wl wd) (fun _ : Unit => True) (fun _ => none) (fun _ => WrW wb wp 0 0) (fun _ => FW fr0 hn H T a b2 P Bo G Se (wb, wp, 0, 0) c1 c2 c3 []) (by omega) rfl rfl rfl (fun _ => rfl) (fun _ => rfl) (fun _ => rfl) (fun Q' hQ' => t_begin hX (hQ' () trivial)) (fun _ _ => ?_))
  exact hq (hn, H, T, a, b2, P, Bo, G, Se, (wb, wp, 0, 0), c1, c2, c3) ⟨⟨i1, i2, i3, i4, i5, i6, i7, i8, i9⟩, k1, k2, k3⟩ rfl
theorem c_byteAt (hX : Cl sc X) (hB : 1 ≤ B.1) {me n : Nat} {ls : pL} {st' : List Value} {f : FT} {o : List Int32} (hR : wrR o f.2.2.2.2.2.2.2.2.2.1.1) (hl : f.2.2.2.2.2.2.2.2.2.1.2.2.1 = nI o.length) {k : Nat} (hk : k < 2147483648) (hck : ckC rfW [.ref 0, .int (nI k)] (.int (nI k) :: .ref 69 :: st') 2 2 = true) (hq : X B me n ls (.int (if k < o.length then o.getD k 0 else -5) :: st') (FWf fr0 f []) Q) : oCallV 84 9 2 2 n X B me ls (.int (nI k) :: .ref 69 :: st') (FWf fr0 f []) Q := by
  obtain ⟨hn, H, T, a, b2, P, Bo, G, Se, ⟨wb, wp, wl, wd⟩, c1, c2, c3⟩ := f
  dsimp only at hR hl
  subst hl
  exact And.intro trivial (cP rfW [.ref 0, .int (nI k)] (WrW wb wp (nI o.length) wd) (some (.int (if k < o.length then o.getD k 0 else -5))) (.int (if k < o.length then o.getD k 0 else -5) :: st') (by omega) hck rfl rfl rfl (fun Q' hQ' => t_byteAt hX hR hk hQ') hq)
theorem c_wlength (hX : Cl sc X) (hB : 1 ≤ B.1) {me n : Nat} {ls : pL} {st' : List Value} {f : FT} (hck : ckC rfW [.ref 0] (.ref 69 :: st') 1 1 = true) (hq : X B me n ls (.int f.2.2.2.2.2.2.2.2.2.1.2.2.1 :: st') (FWf fr0 f []) Q) : oCallV 83 9 1 1 n X B me ls (.ref 69 :: st') (FWf fr0 f []) Q := by
  obtain ⟨hn, H, T, a, b2, P, Bo, G, Se, ⟨wb, wp, wl, wd⟩, c1, c2, c3⟩ := f
  exact And.intro trivial (cP rfW [.ref 0] (WrW wb wp wl wd) (some (.int wl)) (.int wl :: st') (by omega) hck rfl rfl rfl (fun Q' hQ' => t_wlength hX hQ') hq)
theorem f_body (hX : Cl sc X) (hB : 15 ≤ B.1) {s : St} {f : FT} (hI : FIf s f) {i x k : Int32} (hq : ∀ f', FIf (sBody s i x k).2 f' → Q (some (.int (sBody s i x k).1)) (FWf fr0 f' [])) : X B 102 0 [some (.ref 0), some (.int i), some (.int x), some (.int k), none] [] (FWf fr0 f []) Q := by
  have h40 := sols_le s.2.1
  have bad : ¬ (¬ i < 0 ∧ ¬ x < 0 ∧ x < 6 ∧ -1 ≤ k) → X B 102 19 [some (.ref 0), some (.int i), some (.int x), some (.int k), none] [] (FWf fr0 f []) Q := by
    intro h
    rw [sBody, if_neg h] at hq
    iterate 3 refine hX ?_
    refine c_bad hX (by omega) hI (fun f' h' => ?_)
    refine hX ?_
    exact hq f' h'
  iterate 2 refine hX ?_
  refine And.intro (fun h => bad (fun q => q.1 h)) (fun h => ?_)
  iterate 2 refine hX ?_
  refine And.intro (fun h2 => bad (fun q => q.2.1 h2)) (fun h2 => ?_)
  iterate 3 refine hX ?_
  refine And.intro (fun h3 => bad (fun q => absurd q.2.2.1 (Int32.not_lt.mpr h3))) (fun h3 => ?_)
  iterate 3 refine hX ?_
  refine And.intro (fun h4 => ?_) (fun h4 => bad (fun q => h4 q.2.2.2))
  rw [sBody, if_pos ⟨h, h2, Int32.not_le.mp h3, h4⟩] at hq
  obtain ⟨j, rfl, hj, hjc⟩ := i_nat h
  obtain ⟨y, rfl, hy, hyc⟩ := i_nat h2
  rw [hjc, hyc] at hq
  have y6 : y < 6 := (nlt (b := 6) hy (by omega)).mp (Int32.not_le.mp h3)
  iterate 4 refine hX ?_
  refine c_found hX (by omega) hI rfl (fun f' h' => ?_)
  refine hX (And.intro (fun h5 => ?_) (fun h5 => ?_))
  · have hl := (nlt hj (by omega)).mp h5
    rw [if_pos hl] at hq
    obtain ⟨-, -, -, -, hok⟩ := sols_mem (getD_mem (d := []) hl)
    have hb := hok y y6
    iterate 5 refine hX ?_
    refine c_wordOf hX (by omega) h' hl y6 rfl ?_
    generalize ((sols s.2.1).getD j []).getD y [] = b at hb hq
    rw [bdK] at hq
    iterate 3 refine hX ?_
    refine And.intro (fun h6 => ?_) (fun h6 => ?_)
    · have : b = [] := (wC_zero hb).mp ((neq (b := 0) (wC_lt31 hb) (by omega)).mp h6)
      rw [if_pos this] at hq
      iterate 2 refine hX ?_
      exact hq f' h'.1
    · rw [if_neg (fun q => h6 (by rw [q]; rfl))] at hq
      iterate 3 refine hX ?_
      refine And.intro (fun h7 => ?_) (fun h7 => ?_)
      · rw [if_pos h7] at hq
        iterate 2 refine hX ?_
        refine cP [] [.int (nI (wC b))] [] (some (.int (nI b.length))) [.int (nI b.length)] (by omega) rfl rfl rfl rfl (fun Q' hQ' => t_lettersIn hX (by show 1 ≤ B.1 - 1; omega) hb hQ') ?_
        refine hX ?_
        exact hq f' h'.1
      · rw [if_neg h7, tlK, if_neg h7] at hq
        obtain ⟨m, rfl, hm, hmc⟩ := k_nat h4 h7
        rw [hmc] at hq
        iterate 3 refine hX ?_
        refine c_begin hX (by omega) h' (fun f2 hf2 hz => ?_)
        iterate 4 refine hX ?_
        refine c_putBody hX (by omega) hf2 hz hb (fun f3 hf3 hr hl3 => ?_)
        iterate 4 refine hX ?_
        refine c_byteAt hX (by omega) hr hl3 hm rfl ?_
        refine hX ?_
        exact hq f3 hf3.1
  · rw [if_neg (fun q => h5 ((nlt hj (by omega)).mpr q))] at hq
    iterate 3 refine hX ?_
    refine c_no hX (by omega) h'.1 (fun f' h' => ?_)
    refine hX ?_
    exact hq f' h'
end FG
