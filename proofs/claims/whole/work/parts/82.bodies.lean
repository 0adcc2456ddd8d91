/-! Bodies: words of three bits a letter. -/
theorem s_l31 : ∀ n, n < 32 → ((nI n &&& 31).toBitVec.smod 32).toNat = n := by decide +kernel
theorem nshr {w k : Nat} (hw : w < 2147483648) (hk : k < 32) : nI w >>> (nI k &&& 31) = nI (w / 2 ^ k) := pk_shrN hw _ k (s_l31 k hk)
theorem nshl {w k : Nat} (hk : k < 32) (h : w * 2 ^ k < 4294967296) : nI w <<< (nI k &&& 31) = nI (w * 2 ^ k) := pk_shlN _ k (s_l31 k hk) h
theorem nand7 {w : Nat} (hw : w < 2147483648) : nI w &&& 7 = nI (w % 8) := pk_andN (by omega) 3 (by decide +kernel)
theorem nand1 {w : Nat} (hw : w < 2147483648) : nI w &&& 1 = nI (w % 2) := pk_andN (by omega) 1 (by decide +kernel)
theorem nor (a b : Nat) : nI a ||| nI b = nI (a ||| b) := by
  apply Int32.toBitVec_inj.mp
  show BitVec.ofNat 32 a ||| BitVec.ofNat 32 b = BitVec.ofNat 32 (a ||| b)
  exact BitVec.ofNat_or.symm
theorem nat_or {a c k : Nat} (h : a < 2 ^ k) : a ||| (c * 2 ^ k) = a + c * 2 ^ k := by
  have h1 := Nat.shiftLeft_add_eq_or_of_lt h c
  rw [Nat.shiftLeft_eq] at h1
  rw [Nat.or_comm, ← h1, Nat.add_comm]
/-- a BODY as the numbers of its letters: 1 2 a b f g are 1 .. 6; its word -/
def wC : List Nat → Nat
  | [] => 0
  | c :: r => c + 8 * wC r
def bOk (b : List Nat) : Prop := b.length ≤ 6 ∧ ∀ c ∈ b, 1 ≤ c ∧ c ≤ 6
def ltN (c : Nat) : Int32 := [0, 49, 50, 97, 98, 102, 103].getD c 0
theorem wC_lt : ∀ (b : List Nat), (∀ c ∈ b, 1 ≤ c ∧ c ≤ 6) → wC b < 2 ^ (3 * b.length)
  | [], _ => by simp [wC]
  | c :: r, h => by
    have h1 := wC_lt r (fun x hx => h x (List.mem_cons_of_mem _ hx))
    have h2 := h c List.mem_cons_self
    rw [wC, List.length_cons, Nat.mul_add, Nat.pow_add]
    omega
theorem wC_lt18 {b : List Nat} (h : bOk b) : wC b < 262144 := by
  have h1 := wC_lt b h.2
  have h2 : 2 ^ (3 * b.length) ≤ 2 ^ 18 := Nat.pow_le_pow_right (by omega) (by have := h.1; omega)
  omega
theorem wC_dig : ∀ (b : List Nat), (∀ c ∈ b, 1 ≤ c ∧ c ≤ 6) → ∀ k, wC b / 2 ^ (3 * k) % 8 = b.getD k 0
  | [], _, k => by simp [wC]
  | c :: r, h, 0 => by
    have h2 := h c List.mem_cons_self
    rw [wC, Nat.mul_zero, Nat.pow_zero, Nat.div_one, List.getD_cons_zero]
    omega
  | c :: r, h, k + 1 => by
    have h2 := h c List.mem_cons_self
    rw [List.getD_cons_succ, ← wC_dig r (fun x hx => h x (List.mem_cons_of_mem _ hx)) k, wC, show 3 * (k + 1) = 3 + 3 * k by omega, Nat.pow_add, ← Nat.div_div_eq_div_mul]
    rw [show (c + 8 * wC r) / 2 ^ 3 = wC r by omega]
theorem wC_app : ∀ (b s : List Nat), wC (b ++ s) = wC b + 2 ^ (3 * b.length) * wC s
  | [], s => by simp [wC]
  | c :: r, s => by
    rw [List.cons_append, wC, wC_app r s, wC, List.length_cons, show 3 * (r.length + 1) = 3 + 3 * r.length by omega, Nat.pow_add, Nat.mul_add, Nat.mul_assoc]
    omega
theorem wC_pos {b : List Nat} (h : ∀ c ∈ b, 1 ≤ c ∧ c ≤ 6) (hb : b ≠ []) : 0 < wC b := by
  cases b with
  | nil => exact absurd rfl hb
  | cons c r => have := h c List.mem_cons_self; rw [wC]; omega
theorem bOk_dig {b : List Nat} (h : bOk b) (k : Nat) : b.getD k 0 ≤ 6 ∧ (k < b.length → 1 ≤ b.getD k 0) := by
  by_cases hk : k < b.length
  · have : b.getD k 0 ∈ b := by rw [List.getD_eq_getElem?_getD, List.getElem?_eq_getElem hk]; exact List.getElem_mem hk
    have := h.2 _ this
    exact ⟨by omega, fun _ => by omega⟩
  · rw [getD_out (by omega)]
    exact ⟨by omega, fun q => by omega⟩
section BD
variable {sc : List Int32} {X : pX} {B : pB} {Q : pQ}
theorem t_letterIn (hX : Cl sc X) {b : List Nat} (hb : bOk b) {k : Nat} (hk : k < 2147483648) {h : pH} (hq : Q (some (.int (ltN (b.getD k 0)))) h) : X B 4 0 [some (.int (nI (wC b))), some (.int (nI k)), none] [] h Q := by
  repeat refine hX ?_
  refine And.intro (fun h => absurd h (nneg hk)) (fun _ => ?_)
  repeat refine hX ?_
  refine And.intro (fun h => ?_) (fun h => ?_)
  · have hk6 : k < 6 := (nlt (b := 6) hk (by omega)).mp h
    have hw := wC_lt18 hb
    repeat refine hX ?_
    rw [show (3 : Int32) * nI k = nI (3 * k) from nmul 3 k, nshr (by omega) (by omega), nand7 (by have : wC b / 2 ^ (3 * k) ≤ wC b := Nat.div_le_self _ _; omega), wC_dig b hb.2]
    have hd := bOk_dig hb k
    generalize b.getD k 0 = c at hq hd
    obtain ⟨hd, -⟩ := hd
    match c, hd, hq with
    | 0, _, hq =>
      refine And.intro (fun _ => ?_) (fun h => absurd (by decide) h)
      repeat refine hX ?_
      exact hq
    | 1, _, hq =>
      refine And.intro (fun h => absurd h (by decide)) (fun _ => ?_)
      repeat refine hX ?_
      refine And.intro (fun h => absurd h (by decide)) (fun _ => ?_)
      repeat refine hX ?_
      refine And.intro (by unfold vp_in; decide) ?_
      repeat refine hX ?_
      exact hq
    | 2, _, hq =>
      refine And.intro (fun h => absurd h (by decide)) (fun _ => ?_)
      repeat refine hX ?_
      refine And.intro (fun h => absurd h (by decide)) (fun _ => ?_)
      repeat refine hX ?_
      refine And.intro (by unfold vp_in; decide) ?_
      repeat refine hX ?_
      exact hq
    | 3, _, hq =>
      refine And.intro (fun h => absurd h (by decide)) (fun _ => ?_)
      repeat refine hX ?_
      refine And.intro (fun h => absurd h (by decide)) (fun _ => ?_)
      repeat refine hX ?_
      refine And.intro (by unfold vp_in; decide) ?_
      repeat refine hX ?_
      exact hq
    | 4, _, hq =>
      refine And.intro (fun h => absurd h (by decide)) (fun _ => ?_)
      repeat refine hX ?_
      refine And.intro (fun h => absurd h (by decide)) (fun _ => ?_)
      repeat refine hX ?_
      refine And.intro (by unfold vp_in; decide) ?_
      repeat refine hX ?_
      exact hq
    | 5, _, hq =>
      refine And.intro (fun h => absurd h (by decide)) (fun _ => ?_)
      repeat refine hX ?_
      refine And.intro (fun h => absurd h (by decide)) (fun _ => ?_)
      repeat refine hX ?_
      refine And.intro (by unfold vp_in; decide) ?_
      repeat refine hX ?_
      exact hq
    | 6, _, hq =>
      refine And.intro (fun h => absurd h (by decide)) (fun _ => ?_)
      repeat refine hX ?_
      refine And.intro (fun h => absurd h (by decide)) (fun _ => ?_)
      repeat refine hX ?_
      refine And.intro (by unfold vp_in; decide) ?_
      repeat refine hX ?_
      exact hq
    | c + 7, hd, _ => exact absurd hd (by omega)
  · have hk6 : 6 ≤ k := Nat.not_lt.mp fun q => h ((nlt (b := 6) hk (by omega)).mpr q)
    rw [getD_out (by have := hb.1; omega)] at hq
    repeat refine hX ?_
    exact hq
theorem ltN_ne (c : Nat) (h1 : 1 ≤ c) (h2 : c ≤ 6) : ¬ ltN c = 0 := (show ∀ c, c < 7 → 1 ≤ c → ¬ ltN c = 0 by decide) c (by omega) h1
theorem t_lettersIn_loop (hX : Cl sc X) (hB : 1 ≤ B.1) {b : List Nat} (hb : bOk b) {h : pH} (hq : Q (some (.int (nI b.length))) h) : ∀ (n k : Nat), k + n = b.length → X B 5 2 [some (.int (nI (wC b))), some (.int (nI k))] [] h Q := by
  have hb6 := hb.1
  intro n
  induction n with
  | zero =>
    intro k hk
    have hk2 : k = b.length := by omega
    subst hk2
    repeat refine hX ?_
    refine And.intro (fun _ => ?_) (fun h1 => ?_)
    · repeat refine hX ?_
      exact hq
    · repeat refine hX ?_
      refine (cP [] [.int (nI (wC b)), .int (nI b.length)] [] (some (.int (ltN (b.getD b.length 0)))) [.int (ltN (b.getD b.length 0))] hB rfl rfl rfl rfl (fun Q' hQ' => t_letterIn hX hb (by omega) hQ') ?_)
      rw [getD_out (Nat.le_refl _)]
      refine hX (And.intro (fun _ => ?_) (fun h => absurd rfl h))
      repeat refine hX ?_
      exact hq
  | succ n ih =>
    intro k hk
    repeat refine hX ?_
    refine And.intro (fun h1 => absurd ((nle (a := 6) (by omega) (by omega)).mp h1) (by omega)) (fun _ => ?_)
    repeat refine hX ?_
    refine (cP [] [.int (nI (wC b)), .int (nI k)] [] (some (.int (ltN (b.getD k 0)))) [.int (ltN (b.getD k 0))] hB rfl rfl rfl rfl (fun Q' hQ' => t_letterIn hX hb (by omega) hQ') ?_)
    have hd := bOk_dig hb k
    refine hX (And.intro (fun h1 => absurd h1 (ltN_ne _ (hd.2 (by omega)) hd.1)) (fun _ => ?_))
    iterate 2 refine hX ?_
    rw [show nI k + 1 = nI (k + 1) from (nI_succ k).symm]
    exact ih (k + 1) (by omega)
theorem t_lettersIn (hX : Cl sc X) (hB : 1 ≤ B.1) {b : List Nat} (hb : bOk b) {h : pH} (hq : Q (some (.int (nI b.length))) h) : X B 5 0 [some (.int (nI (wC b))), none] [] h Q := by
  iterate 2 refine hX ?_
  exact t_lettersIn_loop hX hB hb hq b.length 0 (by omega)
end BD
