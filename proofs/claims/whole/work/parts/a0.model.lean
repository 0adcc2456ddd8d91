/-! The model: its heap; its small methods. -/
def MW (nw fr pa : List Int32) (st : Int32) (rf tx : List Int32) (ln : Int32) (bo ss : List Int32) (ai fi : Int32) (op : List Int32) (dp : Int32) (wr : List Int32) (wm : Int32) (f1 f2 : List Int32) (pm : Int32) (ch sd : List Int32) (sm : Int32) (pk sv sz : List Int32) (vm : Int32) (hp pl sg : List Int32) (wt : Int32) (bu : List Int32) (hs : Int64) : pH :=
  [.inr (11, [.ref 1, .ref 2, .ref 3, .int st, .ref 4, .ref 5, .int ln, .ref 6, .ref 7, .int ai, .int fi, .ref 8, .int dp, .ref 9, .int wm, .ref 10, .ref 11, .int pm, .ref 12, .ref 13, .int sm, .ref 14, .ref 15, .ref 16, .int vm, .ref 17, .ref 18, .ref 19, .int wt, .ref 20, .long hs]), .inl nw, .inl fr, .inl pa, .inl rf, .inl tx, .inl bo, .inl ss, .inl op, .inl wr, .inl f1, .inl f2, .inl ch, .inl sd, .inl pk, .inl sv, .inl sz, .inl hp, .inl pl, .inl sg, .inl bu]
/-- one outcome over the whole heap -/
theorem cDw {X : pX} {B : pB} {me : Nat} {ls : pL} {st : List Value} {h : pH} {Q : pQ} {cid na maxL n : Nat} (av : List Value) (r : Option Value) (h2 : pH) (h1 : 1 ≤ B.1) (hk : ckW av st h na maxL = true) (ha : (st.take na).reverse = av) (hlen : h2.length = h.length) (hrf : h2.all (rfC h.length) = true) (hr : noR r = true) (hcal : ∀ Q' : pQ, Q' r h2 → X (B.1 - 1, 0, 0) cid 0 (pEntry av maxL) [] h Q') (kk : X B me n ls (rps r (st.drop na)) h2 Q) : oCall cid na maxL n X B me ls st h Q :=
  cMw av (fun _ : Unit => True) (fun _ => r) (fun _ => h2) h1 hk ha (fun _ => hlen) (fun _ => hrf) (fun _ => hr) (fun Q' hQ' => hcal Q' (hQ' () trivial)) (fun _ _ => kk)
def wiI (v a b : Int32) : Int32 := if a ≤ v ∧ v ≤ b then 1 else 0
/-- how many parts the model says a byte has -/
def prI (c : Int32) : Int32 := if fxI c = 1 then arI c else if c = 49 ∨ c = 50 ∨ c = 97 ∨ c = 98 then 0 else if c = 102 then 1 else if c = 103 then 2 else -1
theorem prI_let {c : Int32} (h : ¬ kdI c = -1) : prI c = nI (arN c) := (show ∀ c ∈ ([85, 86, 87, 88, 89, 90, 97, 98, 102, 103] : List Int32), prI c = nI (arN c) by decide) c (letters10 h)
theorem prI_ltN : ∀ c, c < 7 → 1 ≤ c → prI (ltN c) = nI (arC c) := by decide +kernel
def ilI (c : Int32) : Int32 := if kdI c = -1 then 0 else 1
theorem fx_rng {c : Int32} : fxI c = 1 ↔ 85 ≤ c ∧ c ≤ 90 := by
  unfold fxI
  split
  · simp [*]
  · simp [*]
theorem six {c : Int32} (h : 85 ≤ c ∧ c ≤ 90) : c ∈ ([85, 86, 87, 88, 89, 90] : List Int32) := by
  have h3 : ¬ kdI c = -1 := by
    rw [isFlex_kd (fx_rng.mpr h)]
    intro q
    have h1 := h.1
    have h2 := h.2
    rw [Int32.le_iff_toInt_le] at h1 h2
    have e : c = 84 := by
      have : c - 85 + 85 = -1 + 85 := by rw [q]
      rw [Int32.sub_add_cancel] at this
      exact this
    subst e
    exact absurd h1 (by decide)
  have h4 := letters10 h3
  have key : ∀ c ∈ ([85, 86, 87, 88, 89, 90, 97, 98, 102, 103] : List Int32), c ≤ 90 → c ∈ ([85, 86, 87, 88, 89, 90] : List Int32) := by decide
  exact key c h4 h.2
section MA
variable {sc : List Int32} {X : pX} {B : pB} {Q : pQ} {nw fr pa rf tx bo ss op wr f1 f2 ch sd pk sv sz hpz pl sg bu : List Int32} {st ln ai fi dp wm pm sm vm wt : Int32} {hsh : Int64}
theorem m_within (hX : Cl sc X) {h : pH} {v a b : Int32} (hq : Q (some (.int (wiI v a b))) h) : X B 118 0 [some (.int v), some (.int a), some (.int b)] [] h Q := by
  repeat refine hX ?_
  refine And.intro (fun h1 => ?_) (fun h1 => ?_)
  · repeat refine hX ?_
    refine And.intro (Or.inl rfl) ?_
    rw [wiI, if_neg (fun q => Int32.not_lt.mpr q.1 h1)] at hq
    exact hq
  · repeat refine hX ?_
    refine And.intro (fun h2 => ?_) (fun h2 => ?_)
    · repeat refine hX ?_
      refine And.intro (Or.inl rfl) ?_
      rw [wiI, if_neg (fun q => Int32.not_lt.mpr q.2 h2)] at hq
      exact hq
    · repeat refine hX ?_
      refine And.intro (Or.inr rfl) ?_
      rw [wiI, if_pos ⟨Int32.not_lt.mp h1, Int32.not_lt.mp h2⟩] at hq
      exact hq
theorem m_isFlex (hX : Cl sc X) (hB : 1 ≤ B.1) {h : pH} {c : Int32} (hq : Q (some (.int (fxI c))) h) : X B 124 0 [some (.int c)] [] h Q := by
  iterate 4 refine hX ?_
  refine cP [] [.int c, .int 85, .int 90] [] (some (.int (wiI c 85 90))) [.int (wiI c 85 90)] hB rfl rfl rfl rfl (fun Q' hQ' => m_within hX hQ') ?_
  refine hX ?_
  have e : wiI c 85 90 = fxI c := rfl
  rw [e]
  exact And.intro (fxI_or c) hq
theorem m_partsOf (hX : Cl sc X) (hB : 2 ≤ B.1) {h : pH} {c : Int32} (hq : Q (some (.int (prI c))) h) : X B 125 0 [some (.int c)] [] h Q := by
  iterate 2 refine hX ?_
  refine cP [] [.int c] [] (some (.int (fxI c))) [.int (fxI c)] (by omega) rfl rfl rfl rfl (fun Q' hQ' => m_isFlex hX (by show 1 ≤ B.1 - 1; omega) hQ') ?_
  rcases fxI_or c with hf | hf
  · rw [hf]
    refine hX (And.intro (fun _ => ?_) (fun h => absurd rfl h))
    rw [prI, if_neg (by rw [hf]; decide)] at hq
    iterate 2 refine hX ?_
    refine And.intro (fun h1 => ?_) (fun h1 => And.intro (fun h2 => ?_) (fun h2 => And.intro (fun h3 => ?_) (fun h3 => And.intro (fun h4 => ?_) (fun h4 => And.intro (fun h5 => ?_) (fun h5 => And.intro (fun h6 => ?_) (fun h6 => ?_))))))
    · rw [if_pos (Or.inl h1)] at hq
      iterate 2 refine hX ?_
      exact hq
    · rw [if_pos (Or.inr (Or.inl h2))] at hq
      iterate 2 refine hX ?_
      exact hq
    · rw [if_pos (Or.inr (Or.inr (Or.inl h3)))] at hq
      iterate 2 refine hX ?_
      exact hq
    · rw [if_pos (Or.inr (Or.inr (Or.inr h4)))] at hq
      iterate 2 refine hX ?_
      exact hq
    · rw [if_neg (by simp [*]), if_pos h5] at hq
      iterate 2 refine hX ?_
      exact hq
    · rw [if_neg (by simp [*]), if_neg h5, if_pos h6] at hq
      iterate 2 refine hX ?_
      exact hq
    · rw [if_neg (by simp [*]), if_neg h5, if_neg h6] at hq
      iterate 2 refine hX ?_
      exact hq
  · rw [hf]
    refine hX (And.intro (fun h => absurd h (by decide)) (fun _ => ?_))
    rw [prI, if_pos hf] at hq
    iterate 5 refine hX ?_
    refine And.intro (by decide) ?_
    refine hX ?_
    have key : ∀ c ∈ ([85, 86, 87, 88, 89, 90] : List Int32), c - 85 - (c - 85) / 3 * 3 = arI c := by decide
    rw [key c (six (fx_rng.mp hf))]
    exact hq
theorem m_isLetter (hX : Cl sc X) (hB : 3 ≤ B.1) {h : pH} {c : Int32} (hq : Q (some (.int (ilI c))) h) : X B 126 0 [some (.int c)] [] h Q := by
  iterate 3 refine hX ?_
  refine And.intro (fun h1 => ?_) (fun h1 => ?_)
  · rw [ilI, if_pos] at hq
    · iterate 2 refine hX ?_
      exact And.intro (Or.inl rfl) hq
    · apply Classical.byContradiction
      intro h2
      have key : ∀ c ∈ ([85, 86, 87, 88, 89, 90, 97, 98, 102, 103] : List Int32), ¬ c ≤ 50 := by decide
      exact key c (letters10 h2) h1
  · iterate 2 refine hX ?_
    refine cP [] [.int c] [] (some (.int (prI c))) [.int (prI c)] (by omega) rfl rfl rfl rfl (fun Q' hQ' => m_partsOf hX (by show 2 ≤ B.1 - 1; omega) hQ') ?_
    by_cases hk : kdI c = -1
    · rw [ilI, if_pos hk] at hq
      have h6 : ¬ fxI c = 1 := fun q => by
        have := (fx_kN q).1
        exact this hk
      have e : prI c = -1 := by
        rw [prI, if_neg h6, if_neg, if_neg, if_neg]
        · intro q; rw [q] at hk; exact absurd hk (by decide)
        · intro q; rw [q] at hk; exact absurd hk (by decide)
        · rintro (q | q | q | q)
          · rw [q] at h1; exact h1 (by decide)
          · rw [q] at h1; exact h1 (by decide)
          · rw [q] at hk; exact absurd hk (by decide)
          · rw [q] at hk; exact absurd hk (by decide)
      rw [e]
      refine hX (And.intro (fun _ => ?_) (fun h => absurd (by decide) h))
      iterate 2 refine hX ?_
      exact And.intro (Or.inl rfl) hq
    · rw [ilI, if_neg hk] at hq
      rw [prI_let hk]
      have := arN_le c
      refine hX (And.intro (fun h => absurd h (nneg (by omega))) (fun _ => ?_))
      iterate 3 refine hX ?_
      exact And.intro (Or.inr rfl) hq
theorem m_isSide (hX : Cl sc X) {h : pH} {e : Int32} (hq : Q (some (.int (if e = 0 ∨ e = 1 then 1 else 0))) h) : X B 140 0 [some (.int e)] [] h Q := by
  repeat refine hX ?_
  refine And.intro (fun h1 => ?_) (fun h1 => ?_)
  · rw [if_pos (Or.inl h1)] at hq
    repeat refine hX ?_
    exact And.intro (Or.inr rfl) hq
  · repeat refine hX ?_
    refine And.intro (fun h2 => ?_) (fun h2 => ?_)
    · rw [if_pos (Or.inr h2)] at hq
      repeat refine hX ?_
      exact And.intro (Or.inr rfl) hq
    · rw [if_neg (fun q => q.elim h1 h2)] at hq
      repeat refine hX ?_
      exact And.intro (Or.inl rfl) hq
/-- a BODY's word in the model: its first letter is the highest -/
def wB (b : List Nat) : Nat := wC b.reverse
theorem bOk_rev {b : List Nat} (h : bOk b) : bOk b.reverse := ⟨by rw [List.length_reverse]; exact h.1, fun c hc => h.2 c (List.mem_reverse.mp hc)⟩
theorem rev_getD {b : List Nat} {k : Nat} (hk : k < b.length) : b.reverse.getD (b.length - 1 - k) 0 = b.getD k 0 := by
  rw [List.getD_eq_getElem?_getD, List.getD_eq_getElem?_getD, List.getElem?_reverse (by omega)]
  congr 2
  omega
theorem m_signAt (hX : Cl sc X) {h : pH} {b : List Nat} (hb : bOk b) {k : Nat} (hk : k < b.length) (hq : Q (some (.int (nI (b.getD k 0)))) h) : X B 120 0 [some (.int (nI (wB b))), some (.int (nI b.length)), some (.int (nI k))] [] h Q := by
  have h6 := hb.1
  have hb2 := bOk_rev hb
  have hw := wC_lt18 hb2
  repeat refine hX ?_
  rw [show (nI b.length - 1 : Int32) = nI (b.length - 1) from nsub (b := 1) (by omega), nsub (by omega), show (3 : Int32) = nI 3 from rfl, nmul]
  show Q (some (.int (nI (wC b.reverse) >>> (nI (3 * (b.length - 1 - k)) &&& 31) &&& 7))) h
  rw [nshr (by omega) (by omega), nand7 (by have := Nat.div_le_self (wC b.reverse) (2 ^ (3 * (b.length - 1 - k))); omega), wC_dig b.reverse hb2.2, rev_getD hk]
  exact hq
theorem m_sizeOf_loop (hX : Cl sc X) {h : pH} {a0 : Int32} : ∀ (r : List Nat) (n : Nat), (∀ c ∈ r, 1 ≤ c ∧ c ≤ 6) → r.length ≤ 6 → Q (some (.int (nI (n + r.length)))) h → X B 122 4 [some (.int a0), some (.int (nI n)), some (.int (nI (wC r)))] [] h Q := by
  intro r
  induction r with
  | nil =>
    intro n _ _ hq
    iterate 2 refine hX ?_
    refine And.intro (fun _ => ?_) (fun h => absurd (by decide) h)
    repeat refine hX ?_
    exact hq
  | cons c r ih =>
    intro n hr h6 hq
    have hc := hr c List.mem_cons_self
    have hw := wC_lt18 (b := c :: r) ⟨h6, hr⟩
    rw [List.length_cons] at hq h6
    rw [wC] at hw
    iterate 2 refine hX ?_
    refine And.intro (fun h => absurd ((nle (b := 0) (by rw [wC]; omega) (by omega)).mp h) (by rw [wC]; omega)) (fun _ => ?_)
    iterate 6 refine hX ?_
    rw [show (3 : Int32) = nI 3 from rfl, nshr (by rw [wC]; omega) (by omega), show wC (c :: r) / 2 ^ 3 = wC r by rw [wC]; omega, show nI n + 1 = nI (n + 1) from (nI_succ n).symm]
    exact ih (n + 1) (fun d hd => hr d (List.mem_cons_of_mem _ hd)) (by omega) (by rw [show n + 1 + r.length = n + (r.length + 1) by omega]; exact hq)
theorem m_sizeOf (hX : Cl sc X) {h : pH} {b : List Nat} (hb : bOk b) (hq : Q (some (.int (nI b.length))) h) : X B 122 0 [some (.int (nI (wB b))), none, none] [] h Q := by
  iterate 4 refine hX ?_
  exact m_sizeOf_loop hX b.reverse 0 (bOk_rev hb).2 (bOk_rev hb).1 (by rw [List.length_reverse, Nat.zero_add]; exact hq)
theorem m_byteOf (hX : Cl sc X) {h : pH} {c : Nat} (h1 : 1 ≤ c) (h2 : c ≤ 6) (hq : Q (some (.int (ltN c))) h) : X B 123 0 [some (.int (nI c))] [] h Q := by
  rcases (show c = 1 ∨ c = 2 ∨ c = 3 ∨ c = 4 ∨ c = 5 ∨ c = 6 by omega) with rfl | rfl | rfl | rfl | rfl | rfl
  · iterate 2 refine hX ?_
    refine And.intro (fun _ => ?_) (fun h => absurd rfl h)
    iterate 2 refine hX ?_
    exact hq
  · iterate 2 refine hX ?_
    refine And.intro (fun h => absurd h (by decide)) (fun _ => And.intro (fun _ => ?_) (fun h => absurd rfl h))
    iterate 2 refine hX ?_
    exact hq
  · iterate 2 refine hX ?_
    refine And.intro (fun h => absurd h (by decide)) (fun _ => And.intro (fun h => absurd h (by decide)) (fun _ => And.intro (fun _ => ?_) (fun h => absurd rfl h)))
    iterate 2 refine hX ?_
    exact hq
  · iterate 2 refine hX ?_
    refine And.intro (fun h => absurd h (by decide)) (fun _ => And.intro (fun h => absurd h (by decide)) (fun _ => And.intro (fun h => absurd h (by decide)) (fun _ => And.intro (fun _ => ?_) (fun h => absurd rfl h))))
    iterate 2 refine hX ?_
    exact hq
  · iterate 2 refine hX ?_
    refine And.intro (fun h => absurd h (by decide)) (fun _ => And.intro (fun h => absurd h (by decide)) (fun _ => And.intro (fun h => absurd h (by decide)) (fun _ => And.intro (fun h => absurd h (by decide)) (fun _ => And.intro (fun _ => ?_) (fun h => absurd rfl h)))))
    iterate 2 refine hX ?_
    exact hq
  · iterate 2 refine hX ?_
    refine And.intro (fun h => absurd h (by decide)) (fun _ => And.intro (fun h => absurd h (by decide)) (fun _ => And.intro (fun h => absurd h (by decide)) (fun _ => And.intro (fun h => absurd h (by decide)) (fun _ => And.intro (fun h => absurd h (by decide)) (fun _ => ?_)))))
    iterate 2 refine hX ?_
    exact hq
/-! refusals -/
def bmp (rf : List Int32) (k : Nat) : List Int32 := rf.set k (rf.getD k 0 + 1)
theorem m_bad (hX : Cl sc X) (hr : rf.length = 3) (hq : Q (some (.int (-2))) (MW nw fr pa st (bmp rf 0) tx ln bo ss ai fi op dp wr wm f1 f2 pm ch sd sm pk sv sz vm hpz pl sg wt bu hsh)) : X B 115 0 [some (.ref 0)] [] (MW nw fr pa st rf tx ln bo ss ai fi op dp wr wm f1 f2 pm ch sd sm pk sv sz vm hpz pl sg wt bu hsh) Q := by
  iterate 5 refine hX ?_
  refine And.intro (vp_in_nI (n := 0) (by omega) (by omega)) ?_
  iterate 3 refine hX ?_
  refine And.intro (vp_in_nI (n := 0) (by omega) (by omega)) ?_
  repeat refine hX ?_
  exact hq
theorem m_no (hX : Cl sc X) (hr : rf.length = 3) (hq : Q (some (.int (-3))) (MW nw fr pa st (bmp rf 1) tx ln bo ss ai fi op dp wr wm f1 f2 pm ch sd sm pk sv sz vm hpz pl sg wt bu hsh)) : X B 116 0 [some (.ref 0)] [] (MW nw fr pa st rf tx ln bo ss ai fi op dp wr wm f1 f2 pm ch sd sm pk sv sz vm hpz pl sg wt bu hsh) Q := by
  iterate 5 refine hX ?_
  refine And.intro (vp_in_nI (n := 1) (by omega) (by omega)) ?_
  iterate 3 refine hX ?_
  refine And.intro (vp_in_nI (n := 1) (by omega) (by omega)) ?_
  repeat refine hX ?_
  exact hq
theorem m_full (hX : Cl sc X) (hr : rf.length = 3) (hq : Q (some (.int (-4))) (MW nw fr pa st (bmp rf 2) tx ln bo ss ai fi op dp wr wm f1 f2 pm ch sd sm pk sv sz vm hpz pl sg wt bu hsh)) : X B 117 0 [some (.ref 0)] [] (MW nw fr pa st rf tx ln bo ss ai fi op dp wr wm f1 f2 pm ch sd sm pk sv sz vm hpz pl sg wt bu hsh) Q := by
  iterate 5 refine hX ?_
  refine And.intro (vp_in_nI (n := 2) (by omega) (by omega)) ?_
  iterate 3 refine hX ?_
  refine And.intro (vp_in_nI (n := 2) (by omega) (by omega)) ?_
  repeat refine hX ?_
  exact hq
end MA
