/-! What terms become. -/
def kN (c : Int32) : Nat := (kdI c).toNatClampNeg
theorem letters10 {c : Int32} (h : ¬ kdI c = -1) : c ∈ ([85, 86, 87, 88, 89, 90, 97, 98, 102, 103] : List Int32) := by
  unfold kdI at h
  split at h
  · rename_i e; rw [e]; decide
  · split at h
    · rename_i e; rw [e]; decide
    · split at h
      · rename_i e; rw [e]; decide
      · split at h
        · rename_i e; rw [e]; decide
        · split at h
          · rename_i hc
            have h1 : (85 : Int) ≤ c.toInt := by have := Int32.le_iff_toInt_le.mp hc.1; simpa using this
            have h2 : c.toInt ≤ 90 := by have := Int32.le_iff_toInt_le.mp hc.2; simpa using this
            have key : ∀ k : Int32, c.toInt = k.toInt → c = k := fun k hk => Int32.toInt_inj.mp hk
            rcases (show c.toInt = 85 ∨ c.toInt = 86 ∨ c.toInt = 87 ∨ c.toInt = 88 ∨ c.toInt = 89 ∨ c.toInt = 90 by omega) with e | e | e | e | e | e
            · rw [key 85 e]; decide
            · rw [key 86 e]; decide
            · rw [key 87 e]; decide
            · rw [key 88 e]; decide
            · rw [key 89 e]; decide
            · rw [key 90 e]; decide
          · exact absurd rfl h
theorem kN_ok {c : Int32} (h : ¬ kdI c = -1) : kdI c = nI (kN c) ∧ kN c < 10 := (show ∀ c ∈ ([85, 86, 87, 88, 89, 90, 97, 98, 102, 103] : List Int32), kdI c = nI (kN c) ∧ kN c < 10 by decide) c (letters10 h)
/-- a BODY with its parts put in -/
def sub (b : List Nat) (a1 a2 : List Int32) : List Int32 := b.flatMap fun d => if d = 1 then a1 else if d = 2 then a2 else [ltN d]
def grf (bs : List (List Nat)) (c : Int32) (as : List (List Int32)) : List Int32 := sub (bs.getD (kN c) []) (as.getD 0 []) (as.getD 1 [])
/-- what the first term becomes -/
def grw (bs : List (List Nat)) (l : List Int32) : List Int32 := (ev (grf bs) l).headD []
def bv (a : Nat) (b : List Nat) : Prop := bOk b ∧ (a < 1 → cf 1 b = 0) ∧ (a < 2 → cf 2 b = 0)
theorem sub_len : ∀ (b : List Nat) (a1 a2 : List Int32), (sub b a1 a2).length = cl b + cf 1 b * a1.length + cf 2 b * a2.length
  | [], a1, a2 => by simp [sub, cl, cf]
  | d :: r, a1, a2 => by
    have ih := sub_len r a1 a2
    have hle := cf_le r
    have e : sub (d :: r) a1 a2 = (if d = 1 then a1 else if d = 2 then a2 else [ltN d]) ++ sub r a1 a2 := rfl
    rw [e, List.length_append, ih, cl, cl, List.length_cons, cf, cf]
    by_cases h1 : d = 1
    · subst h1
      simp only [if_true, if_neg (show ¬ (1 : Nat) = 2 by omega), Nat.zero_add, Nat.add_mul, Nat.one_mul]
      omega
    · by_cases h2 : d = 2
      · subst h2
        simp only [if_true, if_neg (show ¬ (2 : Nat) = 1 by omega), Nat.zero_add, Nat.add_mul, Nat.one_mul]
        omega
      · simp only [if_neg h1, if_neg h2, Nat.zero_add, List.length_singleton]
        omega
theorem sub_ign1 : ∀ {b : List Nat} {a1 a1' a2 : List Int32}, cf 1 b = 0 → sub b a1 a2 = sub b a1' a2
  | [], a1, a1', a2, _ => rfl
  | d :: r, a1, a1', a2, h => by
    rw [cf] at h
    by_cases h1 : d = 1
    · rw [if_pos h1] at h; omega
    · rw [if_neg h1] at h
      show (if d = 1 then a1 else _) ++ sub r a1 a2 = (if d = 1 then a1' else _) ++ sub r a1' a2
      rw [if_neg h1, if_neg h1, sub_ign1 (by omega)]
theorem sub_ign2 : ∀ {b : List Nat} {a1 a2 a2' : List Int32}, cf 2 b = 0 → sub b a1 a2 = sub b a1 a2'
  | [], a1, a2, a2', _ => rfl
  | d :: r, a1, a2, a2', h => by
    rw [cf] at h
    by_cases h1 : d = 2
    · rw [if_pos h1] at h; omega
    · rw [if_neg h1] at h
      show (if d = 1 then a1 else if d = 2 then a2 else _) ++ sub r a1 a2 = (if d = 1 then a1 else if d = 2 then a2' else _) ++ sub r a1 a2'
      rw [if_neg h1, if_neg h1, sub_ign2 (a2' := a2') (by omega)]
theorem ev_cons {V : Type} {f : Int32 → List V → V} {l : List Int32} (h : 0 < l.length) (d : V) : ev f l = (ev f l).headD d :: (ev f l).drop 1 := by
  obtain ⟨v, r, e⟩ := ev_ne (f := f) h
  rw [e]; rfl
/-- a letter, once its parts are known as far as its BODY uses them -/
theorem grw_cons {bs : List (List Nat)} {c : Int32} {r : List Int32} {m : Nat} (hr : okF r (m + arN c) = true) (hb : bv (arN c) (bs.getD (kN c) [])) {a1 a2 : List Int32} (h1 : 1 ≤ arN c → a1 = grw bs r) (h2 : 2 ≤ arN c → a2 = grw bs (r.drop (tlen r 1))) : grw bs (c :: r) = sub (bs.getD (kN c) []) a1 a2 := by
  show sub (bs.getD (kN c) []) (((ev (grf bs) r).take (arN c)).getD 0 []) (((ev (grf bs) r).take (arN c)).getD 1 []) = _
  rcases (show arN c = 0 ∨ arN c = 1 ∨ arN c = 2 by have := arN_le c; omega) with ha | ha | ha
  · rw [ha] at hb
    rw [sub_ign1 (a1' := a1) (hb.2.1 (by omega)), sub_ign2 (a2' := a2) (hb.2.2 (by omega))]
  · rw [ha] at hb hr
    have hl := okF_pos hr (by omega)
    rw [sub_ign2 (a2' := a2) (hb.2.2 (by omega)), h1 (by omega), ha, ev_cons hl []]
    rfl
  · rw [ha] at hr
    have hl := okF_pos hr (by omega)
    have hok2 := okF_drop r 1 (m + 1) (by rw [show 1 + (m + 1) = m + 2 by omega]; exact hr)
    have hl2 := okF_pos hok2 (by omega)
    have e2 := ev_drop (grf bs) r 1
    rw [h1 (by omega), h2 (by omega), ha, ev_cons hl [], e2, ev_cons hl2 []]
    rfl
def GrW (L S N D C : List Int32) (sd tt : Int32) (w p o t kn sn sz pl gw : List Int32) (us : Int32) : pH := [.inr (3, [.ref 1, .ref 7, .ref 12, .ref 13, .ref 14, .ref 15, .ref 16, .int us]), .inr (2, [.ref 2, .ref 3, .ref 4, .ref 5, .ref 6, .int sd, .int tt]), .inl L, .inl S, .inl N, .inl D, .inl C, .inr (1, [.ref 8, .ref 9, .ref 10, .ref 11]), .inl w, .inl p, .inl o, .inl t, .inl kn, .inl sn, .inl sz, .inl pl, .inl gw]
/-- kinds and second parts as they are; a choice -/
def GC (l L N D C : List Int32) (bs : List (List Nat)) (w p o t kn sn : List Int32) : Prop := (l.length ≤ 40 ∧ L.length = 40 ∧ L.take l.length = l ∧ mOK l N D C ∧ (∀ c ∈ l, ¬ kdI c = -1) ∧ chR bs w p o t) ∧ (kn.length = 40 ∧ sn.length = 40) ∧ ∀ q, q < l.length → kn.getD q 0 = nI (kN (l.getD q 0)) ∧ sn.getD q 0 = nI (sec l q)
def szI (sz : List Int32) : Prop := sz.length = 40 ∧ ∀ q, q < 40 → ∃ n, n ≤ 201 ∧ sz.getD q 0 = nI n
theorem szI_any {sz : List Int32} (h : szI sz) (q : Nat) : ∃ n, n ≤ 201 ∧ sz.getD q 0 = nI n := by
  by_cases hq : q < 40
  · exact h.2 q hq
  · exact ⟨0, by omega, by rw [getD_out (by rw [h.1]; omega)]; rfl⟩
theorem getD_mem {α : Type} {l : List α} {i : Nat} {d : α} (h : i < l.length) : l.getD i d ∈ l := by
  rw [List.getD_eq_getElem?_getD, List.getElem?_eq_getElem h]; exact List.getElem_mem h
section GR
variable {sc : List Int32} {X : pX} {B : pB} {Q : pQ} {L S N D C w p o t kn sn sz pl gw : List Int32} {sd tt us : Int32}
theorem t_sizeAt (hX : Cl sc X) {n : Nat} (hn : n < 2147483648) (hL : sz.length = 40) (hq : Q (some (.int (sz.getD n 0))) (GrW L S N D C sd tt w p o t kn sn sz pl gw us)) : X B 36 0 [some (.ref 0), some (.int (nI n))] [] (GrW L S N D C sd tt w p o t kn sn sz pl gw us) Q := by
  repeat refine hX ?_
  refine And.intro (fun h1 => absurd h1 (nneg hn)) (fun _ => ?_)
  repeat refine hX ?_
  rw [hL]
  refine And.intro (fun h2 => ?_) (fun h2 => ?_)
  · repeat refine hX ?_
    rw [getD_out (by rw [hL]; exact (nle (by omega) hn).mp h2)] at hq
    exact hq
  · have h3 : n < 40 := Nat.not_le.mp fun q => h2 ((nle (by omega) hn).mpr q)
    repeat refine hX ?_
    refine And.intro (vp_in_nI (by omega) (by omega)) ?_
    repeat refine hX ?_
    show Q (some (.int (sz.getD (nI n).toNatClampNeg 0))) _
    rw [nI_clamp hn]
    exact hq
theorem t_gtake (hX : Cl sc X) (hB : 2 ≤ B.1) {bs : List (List Nat)} (hR : chR bs w p o t) {k : Nat} (hk : k < 10) {b : List Nat} (hb : bOk b) (hq : ∀ w' p' o' t', chR (bs.set k b) w' p' o' t' → Q none (GrW L S N D C sd tt w' p' o' t' kn sn sz pl gw us)) : X B 34 0 [some (.ref 0), some (.int (nI k)), some (.int (nI (wC b)))] [] (GrW L S N D C sd tt w p o t kn sn sz pl gw us) Q := by
  repeat refine hX ?_
  refine And.intro trivial (cM [7, 8, 9, 10, 11] [.ref 0, .int (nI k), .int (nI (wC b))] (ChW w p o t) (fun u : List Int32 × List Int32 × List Int32 × List Int32 => chR (bs.set k b) u.1 u.2.1 u.2.2.1 u.2.2.2) (fun _ => none) (fun u => ChW u.1 u.2.1 u.2.2.1 u.2.2.2) (fun u => GrW L S N D C sd tt u.1 u.2.1 u.2.2.1 u.2.2.2 kn sn sz pl gw us) (fun _ => []) (by omega) rfl rfl rfl (fun _ => rfl) (fun _ => rfl) (fun _ => rfl) (fun Q' hQ' => t_ctake hX (by show 1 ≤ B.1 - 1; omega) hR hk hb (fun w p o t h => hQ' (w, p, o, t) h)) (fun u hu => ?_))
  repeat refine hX ?_
  exact hq _ _ _ _ hu
theorem t_gword (hX : Cl sc X) (hB : 1 ≤ B.1) {bs : List (List Nat)} (hR : chR bs w p o t) {k : Nat} (hk : k < 10) (hq : Q (some (.int (nI (wC (bs.getD k []))))) (GrW L S N D C sd tt w p o t kn sn sz pl gw us)) : X B 35 0 [some (.ref 0), some (.int (nI k))] [] (GrW L S N D C sd tt w p o t kn sn sz pl gw us) Q := by
  repeat refine hX ?_
  refine And.intro trivial (cP [7, 8, 9, 10, 11] [.ref 0, .int (nI k)] (ChW w p o t) (some (.int (nI (wC (bs.getD k []))))) [.int (nI (wC (bs.getD k [])))] hB rfl rfl rfl rfl (fun Q' hQ' => t_cword hX hR hk hQ') ?_)
  repeat refine hX ?_
  exact hq
theorem t_prepare_loop (hX : Cl sc X) (hB : 2 ≤ B.1) (hL : L.length = 40) (hC : C.length = 40) (hq : ∀ kn sn, kn.length = 40 → sn.length = 40 → (∀ q, q < 40 → kn.getD q 0 = kdI (L.getD q 0) ∧ sn.getD q 0 = C.getD q 0) → Q none (GrW L S N D C sd tt w p o t kn sn sz pl gw us)) : ∀ (n j : Nat), j + n = 40 → ∀ (kn sn : List Int32), kn.length = 40 → sn.length = 40 → (∀ q, q < j → kn.getD q 0 = kdI (L.getD q 0) ∧ sn.getD q 0 = C.getD q 0) → X B 33 2 [some (.ref 0), some (.int (nI j))] [] (GrW L S N D C sd tt w p o t kn sn sz pl gw us) Q := by
  intro n
  induction n with
  | zero =>
    intro j hj kn sn h1 h2 h3
    have : j = 40 := by omega
    subst this
    repeat refine hX ?_
    refine And.intro (fun _ => ?_) (fun h => absurd (by decide) h)
    repeat refine hX ?_
    exact hq kn sn h1 h2 h3
  | succ n ih =>
    intro j hj kn sn h1 h2 h3
    repeat refine hX ?_
    refine And.intro (fun h => absurd ((nle (a := 40) (by omega) (by omega)).mp h) (by omega)) (fun _ => ?_)
    repeat refine hX ?_
    refine And.intro trivial (cP [1, 2, 3, 4, 5, 6] [.ref 0, .int (nI j)] (EqW L S N D C sd tt) (some (.int (L.getD j 0))) [.int (L.getD j 0), .int (nI j), .ref 12] (by omega) rfl rfl rfl rfl (fun Q' hQ' => t_letterAt hX (by omega) hL hQ') ?_)
    refine hX (cP [] [.int (L.getD j 0)] [] (some (.int (kdI (L.getD j 0)))) [.int (kdI (L.getD j 0)), .int (nI j), .ref 12] (by omega) rfl rfl rfl rfl (fun Q' hQ' => t_kind hX (by show 1 ≤ B.1 - 1; omega) hQ') ?_)
    refine hX (And.intro (vp_in_nI (by omega) (by omega)) ?_)
    rw [nI_clamp (by omega)]
    repeat refine hX ?_
    refine And.intro trivial (cP [1, 2, 3, 4, 5, 6] [.ref 0, .int (nI j)] (EqW L S N D C sd tt) (some (.int (C.getD j 0))) [.int (C.getD j 0), .int (nI j), .ref 13] (by omega) rfl rfl rfl rfl (fun Q' hQ' => t_secondOf hX (by omega) hC hQ') ?_)
    refine hX (And.intro (vp_in_nI (by omega) (by omega)) ?_)
    rw [nI_clamp (by omega)]
    iterate 2 refine hX ?_
    rw [show nI j + 1 = nI (j + 1) from (nI_succ j).symm]
    refine ih (j + 1) (by omega) _ _ (by rw [List.length_set]; exact h1) (by rw [List.length_set]; exact h2) (fun q hq => ?_)
    by_cases e : j = q
    · subst e
      rw [getD_set_eq (by omega), getD_set_eq (by omega)]
      exact ⟨rfl, rfl⟩
    · rw [getD_set_ne e, getD_set_ne e]
      exact h3 q (by omega)
theorem t_prepare (hX : Cl sc X) (hB : 2 ≤ B.1) (hL : L.length = 40) (hC : C.length = 40) (hk : kn.length = 40 ∧ sn.length = 40) (hq : ∀ kn sn, kn.length = 40 → sn.length = 40 → (∀ q, q < 40 → kn.getD q 0 = kdI (L.getD q 0) ∧ sn.getD q 0 = C.getD q 0) → Q none (GrW L S N D C sd tt w p o t kn sn sz pl gw us)) : X B 33 0 [some (.ref 0), none] [] (GrW L S N D C sd tt w p o t kn sn sz pl gw us) Q := by
  iterate 2 refine hX ?_
  exact t_prepare_loop hX hB hL hC hq 40 0 rfl kn sn hk.1 hk.2 (fun q hq => by omega)
end GR
