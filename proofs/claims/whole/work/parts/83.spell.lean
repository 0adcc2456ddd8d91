/-! Bodies: the table of all. -/
/-- how many parts the letter of a number has -/
def arC (c : Nat) : Nat := if c = 5 then 1 else if c = 6 then 2 else 0
/-- the ends of BODIES: n letters more, with so many places to fill -/
def spC (parts n o : Nat) (F : Nat → List (List Nat)) (c : Nat) : List (List Nat) := if (¬ (c ≤ 2 ∧ parts < c)) ∧ ¬ (o - 1 + arC c = 0 ∧ 1 < n + 1) ∧ o - 1 + arC c < n + 1 then (F (o - 1 + arC c)).map (c :: ·) else []
def spF (parts : Nat) : Nat → Nat → List (List Nat)
  | 0, _ => [[]]
  | n + 1, o => [1, 2, 3, 4, 5, 6].flatMap (spC parts n o (spF parts n))
theorem arN_ltN : ∀ c, c < 7 → arN (ltN c) = arC c := by decide +kernel
theorem spF_ok {parts : Nat} : ∀ (n o : Nat), ∀ s ∈ spF parts n o, s.length = n ∧ ∀ c ∈ s, 1 ≤ c ∧ c ≤ 6
  | 0, o, s, h => by
    rw [spF, List.mem_singleton] at h
    subst h
    exact ⟨rfl, fun c hc => by simp at hc⟩
  | n + 1, o, s, h => by
    rw [spF, List.mem_flatMap] at h
    obtain ⟨c, hc, h⟩ := h
    unfold spC at h
    split at h
    · obtain ⟨s', hs', rfl⟩ := List.mem_map.mp h
      obtain ⟨h1, h2⟩ := spF_ok n _ s' hs'
      refine ⟨by rw [List.length_cons, h1], fun d hd => ?_⟩
      rcases List.mem_cons.mp hd with rfl | hd
      · simp only [List.mem_cons, List.not_mem_nil, or_false] at hc
        omega
      · exact h2 d hd
    · simp at h
def BdW (w f : List Int32) (n : Int32) : pH := [.inr (0, [.ref 1, .ref 2, .int n]), .inl w, .inl f]
/-- the table holds the BODIES T -/
def tbR (T : List (List Nat)) (w : List Int32) : Prop := w.length = 1822 ∧ T.length ≤ 1822 ∧ ∀ i, i < T.length → w.getD i 0 = nI (wC (T.getD i []))
theorem tbR_push {T : List (List Nat)} {w : List Int32} (h : tbR T w) (hT : T.length < 1822) (b : List Nat) : tbR (T ++ [b]) (w.set T.length (nI (wC b))) := by
  obtain ⟨h1, h2, h3⟩ := h
  refine ⟨by rw [List.length_set]; exact h1, by rw [List.length_append, List.length_singleton]; omega, fun i hi => ?_⟩
  rw [List.length_append, List.length_singleton] at hi
  by_cases e : T.length = i
  · subst e
    rw [getD_set_eq (by omega), getD_app2]
  · rw [getD_set_ne e, getD_app1 (by omega)]
    exact h3 i (by omega)
section SP
variable {sc : List Int32} {X : pX} {B : pB} {Q : pQ} {w f : List Int32}
theorem t_bkeep (hX : Cl sc X) {n : Nat} (hn : n < 1822) (hw : w.length = 1822) {x : Int32} (hq : Q none (BdW (w.set n x) f (nI (n + 1)))) : X B 9 0 [some (.ref 0), some (.int x)] [] (BdW w f (nI n)) Q := by
  repeat refine hX ?_
  refine And.intro (fun h => absurd ((nle (a := 1822) (by omega) (by omega)).mp h) (by omega)) (fun _ => ?_)
  repeat refine hX ?_
  refine And.intro (vp_in_nI (by omega) (by omega)) ?_
  rw [nI_clamp (by omega)]
  repeat refine hX ?_
  rw [nI_succ] at hq
  exact hq
set_option maxHeartbeats 1000000 in
theorem t_spell (hX : Cl sc X) {parts : Nat} (hp : parts ≤ 2) : ∀ (n : Nat) {B : pB}, n + 2 ≤ B.1 → ∀ (Q : pQ) (b : List Nat) (o : Nat) (T : List (List Nat)) (w : List Int32), b.length + n ≤ 6 → (∀ c ∈ b, 1 ≤ c ∧ c ≤ 6) → o ≤ 10 → (0 < n → 0 < o) → tbR T w → T.length + (spF parts n o).length ≤ 1822 → (∀ w', tbR (T ++ (spF parts n o).map (b ++ ·)) w' → Q none (BdW w' f (nI (T.length + (spF parts n o).length)))) → X B 8 0 [some (.ref 0), some (.int (nI parts)), some (.int (nI (wC b))), some (.int (nI b.length)), some (.int (nI o)), some (.int (nI n)), none, none, none, none] [] (BdW w f (nI T.length)) Q := by
  intro n
  induction n with
  | zero =>
    intro B hB Q b o T w hb hb2 ho hno hT hlen hq
    rw [spF] at hlen hq
    repeat refine hX ?_
    refine And.intro (fun _ => ?_) (fun h => absurd (by decide) h)
    repeat refine hX ?_
    refine And.intro trivial (cD [0, 1, 2] [.ref 0, .int (nI (wC b))] (BdW w f (nI T.length)) none (BdW (w.set T.length (nI (wC b))) f (nI (T.length + 1))) (BdW (w.set T.length (nI (wC b))) f (nI (T.length + 1))) [] (by omega) rfl rfl rfl rfl rfl rfl (fun Q' hQ' => t_bkeep hX (by simp at hlen; omega) hT.1 hQ') ?_)
    repeat refine hX ?_
    refine hq _ ?_
    simp only [List.map_cons, List.map_nil, List.append_nil]
    exact tbR_push hT (by simp at hlen; omega) b
  | succ n ih =>
    intro B hB Q b o T w hb hb2 ho hno hT hlen hq
    have hwb : wC b < 2 ^ (3 * b.length) := wC_lt b hb2
    have hwb2 : 2 ^ (3 * b.length) ≤ 2 ^ 15 := Nat.pow_le_pow_right (by omega) (by omega)
    have ho1 := hno (by omega)
    -- the loop over the letters
    have loop : ∀ (cs : List Nat) (k : Nat), [1, 2, 3, 4, 5, 6].drop k = cs → k ≤ 6 → ∀ (T' : List (List Nat)) (w' : List Int32) (l7 l8 l9 : Option Value), tbR T' w' → T'.length + (cs.flatMap (spC parts n o (spF parts n))).length ≤ 1822 → (∀ w'', tbR (T' ++ (cs.flatMap (spC parts n o (spF parts n))).map (b ++ ·)) w'' → Q none (BdW w'' f (nI (T'.length + (cs.flatMap (spC parts n o (spF parts n))).length)))) →
        X B 8 20 [some (.ref 0), some (.int (nI parts)), some (.int (nI (wC b))), some (.int (nI b.length)), some (.int (nI o)), some (.int (nI (n + 1))), some (.int (nI (k + 1))), l7, l8, l9] [] (BdW w' f (nI T'.length)) Q := by
      intro cs
      induction cs with
      | nil =>
        intro k hk hk6 T' w' l7 l8 l9 hT' hlen' hq'
        have : k = 6 := by
          have := congrArg List.length hk
          simp at this
          omega
        subst this
        repeat refine hX ?_
        refine And.intro (fun _ => ?_) (fun h => absurd (by decide) h)
        repeat refine hX ?_
        have := hq' w' (by simpa using hT')
        simp only [List.flatMap_nil, List.length_nil, Nat.add_zero] at this
        exact this
      | cons c cs ihc =>
        intro k hk hk6 T' w' l7 l8 l9 hT' hlen' hq'
        have hk5 : k < 6 := by
          have := congrArg List.length hk
          simp at this
          omega
        have hck : c = k + 1 ∧ [1, 2, 3, 4, 5, 6].drop (k + 1) = cs := by
          rcases (show k = 0 ∨ k = 1 ∨ k = 2 ∨ k = 3 ∨ k = 4 ∨ k = 5 by omega) with rfl | rfl | rfl | rfl | rfl | rfl <;> (simp at hk; exact ⟨hk.1.symm, by simp [hk.2]⟩)
        obtain ⟨rfl, hk'⟩ := hck
        rw [List.flatMap_cons, spC] at hlen' hq'
        repeat refine hX ?_
        refine And.intro (fun h => absurd ((nlt (a := 6) (by omega) (by omega)).mp h) (by omega)) (fun _ => ?_)
        repeat refine hX ?_
        rw [show nI (k + 1) - 1 = nI k from nI_pred k]
        refine And.intro (vp_in_nI (by show k < 6; omega) (by decide)) ?_
        rw [nI_clamp (by omega), show ([49, 50, 97, 98, 102, 103] : List Int32).getD k 0 = ltN (k + 1) by
          rcases (show k = 0 ∨ k = 1 ∨ k = 2 ∨ k = 3 ∨ k = 4 ∨ k = 5 by omega) with rfl | rfl | rfl | rfl | rfl | rfl <;> rfl]
        refine hX (cP [] [.int (ltN (k + 1))] [] (some (.int (arI (ltN (k + 1))))) [.int (arI (ltN (k + 1))), .int (nI o - 1)] (by omega) rfl rfl rfl rfl (fun Q' hQ' => t_parts hX hQ') ?_)
        rw [arI_eq, arN_ltN (k + 1) (by omega), show nI o - 1 = nI (o - 1) from nsub (b := 1) (by omega)]
        have hac : arC (k + 1) ≤ 2 := by unfold arC; split; omega; split <;> omega
        iterate 3 refine hX ?_
        rw [nadd]
        generalize hst : o - 1 + arC (k + 1) = st at hlen' hq' ⊢
        have hst20 : st ≤ 20 := by omega
        -- behind the letter
        have skip : ∀ (T'' : List (List Nat)) (w'' : List Int32) (l7 l8 l9 : Option Value), tbR T'' w'' → T''.length + (cs.flatMap (spC parts n o (spF parts n))).length ≤ 1822 → (∀ w3, tbR (T'' ++ (cs.flatMap (spC parts n o (spF parts n))).map (b ++ ·)) w3 → Q none (BdW w3 f (nI (T''.length + (cs.flatMap (spC parts n o (spF parts n))).length)))) → X B 8 125 [some (.ref 0), some (.int (nI parts)), some (.int (nI (wC b))), some (.int (nI b.length)), some (.int (nI o)), some (.int (nI (n + 1))), some (.int (nI (k + 1))), l7, l8, l9] [] (BdW w'' f (nI T''.length)) Q := by
          intro T'' w'' l7 l8 l9 hT'' hl'' hq''
          iterate 2 refine hX ?_
          rw [show nI (k + 1) + 1 = nI (k + 1 + 1) from (nI_succ (k + 1)).symm]
          exact ihc (k + 1) hk' (by omega) T'' w'' l7 l8 l9 hT'' hl'' hq''
        have none' : ¬ ((¬ (k + 1 ≤ 2 ∧ parts < k + 1)) ∧ ¬ (st = 0 ∧ 1 < n + 1) ∧ st < n + 1) → ∀ l7 l8 l9, X B 8 125 [some (.ref 0), some (.int (nI parts)), some (.int (nI (wC b))), some (.int (nI b.length)), some (.int (nI o)), some (.int (nI (n + 1))), some (.int (nI (k + 1))), l7, l8, l9] [] (BdW w' f (nI T'.length)) Q := by
          intro hno l7 l8 l9
          rw [if_neg hno, List.nil_append] at hlen' hq'
          exact skip T' w' l7 l8 l9 hT' hlen' hq'
        have go : (¬ (k + 1 ≤ 2 ∧ parts < k + 1)) ∧ ¬ (st = 0 ∧ 1 < n + 1) ∧ st < n + 1 → ∀ l8 l9, X B 8 103 [some (.ref 0), some (.int (nI parts)), some (.int (nI (wC b))), some (.int (nI b.length)), some (.int (nI o)), some (.int (nI (n + 1))), some (.int (nI (k + 1))), some (.int (nI st)), l8, l9] [] (BdW w' f (nI T'.length)) Q := by
          intro hyes l8 l9
          rw [if_pos hyes, List.length_append, List.length_map] at hlen' hq'
          repeat refine hX ?_
          rw [show (3 : Int32) * nI b.length = nI (3 * b.length) from nmul 3 _, nshl (by omega) (by have : (k + 1) * 2 ^ (3 * b.length) ≤ 6 * 2 ^ 15 := Nat.mul_le_mul (by omega) hwb2; omega), nor, nat_or hwb, show wC b + (k + 1) * 2 ^ (3 * b.length) = wC (b ++ [k + 1]) by rw [wC_app, Nat.mul_comm]; simp [wC], show nI b.length + 1 = nI (b ++ [k + 1]).length by rw [List.length_append, List.length_singleton]; exact (nI_succ _).symm, show nI (n + 1) - 1 = nI n from nI_pred n]
          refine And.intro trivial (cM [0, 1, 2] [.ref 0, .int (nI parts), .int (nI (wC (b ++ [k + 1]))), .int (nI (b ++ [k + 1]).length), .int (nI st), .int (nI n)] (BdW w' f (nI T'.length)) (fun w2 : List Int32 => tbR (T' ++ (spF parts n st).map ((b ++ [k + 1]) ++ ·)) w2) (fun _ => none) (fun w2 => BdW w2 f (nI (T'.length + (spF parts n st).length))) (fun w2 => BdW w2 f (nI (T'.length + (spF parts n st).length))) (fun _ => []) (by omega) rfl rfl rfl (fun _ => rfl) (fun _ => rfl) (fun _ => rfl) (fun Q' hQ' => ih (B := (B.1 - 1, 0, 0)) (by show n + 2 ≤ B.1 - 1; omega) Q' (b ++ [k + 1]) st T' w' (by rw [List.length_append, List.length_singleton]; omega) (fun c hc => by rcases List.mem_append.mp hc with h | h; exact hb2 c h; rw [List.mem_singleton.mp h]; omega) (by omega) (fun h => by have := hyes.2.1; omega) hT' (by omega) hQ') (fun w2 hw2 => ?_))
          have := skip (T' ++ (spF parts n st).map ((b ++ [k + 1]) ++ ·)) w2 (some (.int (nI st))) l8 l9 hw2 (by rw [List.length_append, List.length_map]; omega) (fun w3 hw3 => by
            have e : T' ++ (spF parts n st).map ((b ++ [k + 1]) ++ ·) ++ (cs.flatMap (spC parts n o (spF parts n))).map (b ++ ·) = T' ++ ((spF parts n st).map (fun x => (k + 1) :: x) ++ (cs.flatMap (spC parts n o (spF parts n)))).map (b ++ ·) := by
              rw [List.map_append, List.map_map, List.append_assoc]
              congr 2
              apply List.map_congr_left
              intro x _
              simp
            rw [e] at hw3
            have := hq' w3 hw3
            rw [List.length_append, List.length_map, Nat.add_assoc]
            exact this)
          rw [List.length_append, List.length_map] at this
          exact this
        have s3 : ∀ (e8 e9 : Int32), (e8 = 1 ∧ (k + 1 ≤ 2 ∧ parts < k + 1)) ∨ (e8 = 0 ∧ ¬ (k + 1 ≤ 2 ∧ parts < k + 1)) → (e9 = 1 ∧ (st = 0 ∧ 1 < n + 1)) ∨ (e9 = 0 ∧ ¬ (st = 0 ∧ 1 < n + 1)) → X B 8 86 [some (.ref 0), some (.int (nI parts)), some (.int (nI (wC b))), some (.int (nI b.length)), some (.int (nI o)), some (.int (nI (n + 1))), some (.int (nI (k + 1))), some (.int (nI st)), some (.int e8), some (.int e9)] [] (BdW w' f (nI T'.length)) Q := by
          intro e8 e9 h8 h9
          repeat refine hX ?_
          rcases h8 with ⟨rfl, h8⟩ | ⟨rfl, h8⟩
          · exact And.intro (fun h => absurd h (by decide)) (fun _ => none' (fun z => z.1 h8) _ _ _)
          · refine And.intro (fun _ => ?_) (fun h => absurd rfl h)
            repeat refine hX ?_
            rcases h9 with ⟨rfl, h9⟩ | ⟨rfl, h9⟩
            · exact And.intro (fun h => absurd h (by decide)) (fun _ => none' (fun z => z.2.1 h9) _ _ _)
            · refine And.intro (fun _ => ?_) (fun h => absurd rfl h)
              repeat refine hX ?_
              refine And.intro (fun h => none' (fun z => by have := (nle (by omega) (by omega)).mp h; omega) _ _ _) (fun h => go ⟨h8, h9, Nat.not_le.mp fun q => h ((nle (by omega) (by omega)).mpr q)⟩ _ _)
        have s2 : ∀ (e8 : Int32) (l9 : Option Value), (e8 = 1 ∧ (k + 1 ≤ 2 ∧ parts < k + 1)) ∨ (e8 = 0 ∧ ¬ (k + 1 ≤ 2 ∧ parts < k + 1)) → X B 8 68 [some (.ref 0), some (.int (nI parts)), some (.int (nI (wC b))), some (.int (nI b.length)), some (.int (nI o)), some (.int (nI (n + 1))), some (.int (nI (k + 1))), some (.int (nI st)), some (.int e8), l9] [] (BdW w' f (nI T'.length)) Q := by
          intro e8 l9 h8
          repeat refine hX ?_
          refine And.intro (fun h => ?_) (fun h => ?_)
          · have hz : st = 0 := (neq (b := 0) (by omega) (by omega)).mp h
            repeat refine hX ?_
            refine And.intro (fun h2 => ?_) (fun h2 => ?_)
            · iterate 2 refine hX ?_
              exact s3 e8 0 h8 (Or.inr ⟨rfl, fun z => by have := (nle (b := 1) (by omega) (by omega)).mp h2; omega⟩)
            · iterate 3 refine hX ?_
              exact s3 e8 1 h8 (Or.inl ⟨rfl, hz, Nat.not_le.mp fun q => h2 ((nle (b := 1) (by omega) (by omega)).mpr q)⟩)
          · iterate 2 refine hX ?_
            exact s3 e8 0 h8 (Or.inr ⟨rfl, fun z => h (by rw [z.1]; rfl)⟩)
        repeat refine hX ?_
        refine And.intro (fun h => ?_) (fun h => ?_)
        · iterate 2 refine hX ?_
          exact s2 0 _ (Or.inr ⟨rfl, fun z => by have := (nlt (a := 2) (by omega) (by omega)).mp h; omega⟩)
        · have hk2 : k + 1 ≤ 2 := Nat.not_lt.mp fun q => h ((nlt (a := 2) (by omega) (by omega)).mpr q)
          repeat refine hX ?_
          refine And.intro (fun h2 => ?_) (fun h2 => ?_)
          · iterate 2 refine hX ?_
            exact s2 0 _ (Or.inr ⟨rfl, fun z => by have := (nle (by omega) (by omega)).mp h2; omega⟩)
          · iterate 3 refine hX ?_
            exact s2 1 _ (Or.inl ⟨rfl, hk2, Nat.not_le.mp fun q => h2 ((nle (by omega) (by omega)).mpr q)⟩)
    repeat refine hX ?_
    refine And.intro (fun h => absurd ((nle (b := 0) (by omega) (by omega)).mp h) (by omega)) (fun _ => ?_)
    repeat refine hX ?_
    refine And.intro (fun _ => ?_) (fun h => absurd ((nlt (b := 6) (by omega) (by omega)).mpr (by omega)) h)
    iterate 2 refine hX ?_
    exact loop [1, 2, 3, 4, 5, 6] 0 rfl (by omega) T w _ _ _ hT hlen hq
/-- all BODIES: those for letters without parts, with one, with two; the lesser SIZE first -/
def BTf (k : Nat) : List (List Nat) := (List.range k).flatMap fun row => spF (row / 6) (row % 6 + 1) 1
theorem BTf_succ (k : Nat) : BTf (k + 1) = BTf k ++ spF (k / 6) (k % 6 + 1) 1 := by
  rw [BTf, List.range_succ, List.flatMap_append]
  simp [BTf]
set_option maxRecDepth 100000 in
theorem BTf_18 : (BTf 18).length = 1822 := by decide +kernel
theorem BTf_mono : ∀ (j k : Nat), (BTf k).length ≤ (BTf (k + j)).length
  | 0, k => Nat.le_refl _
  | j + 1, k => by
    rw [← Nat.add_assoc, BTf_succ, List.length_append]
    have := BTf_mono j k
    omega
theorem BTf_le {k : Nat} (h : k ≤ 18) : (BTf k).length ≤ 1822 := by
  have := BTf_mono (18 - k) k
  rw [show k + (18 - k) = 18 by omega, BTf_18] at this
  exact this
def fsR (k : Nat) (f : List Int32) : Prop := f.length = 19 ∧ ∀ j, j < k → f.getD j 0 = nI (BTf j).length
theorem fsR_push {k : Nat} {f : List Int32} (h : fsR k f) (hk : k < 19) : fsR (k + 1) (f.set k (nI (BTf k).length)) := by
  refine ⟨by rw [List.length_set]; exact h.1, fun j hj => ?_⟩
  by_cases e : k = j
  · subst e
    exact getD_set_eq (by rw [h.1]; exact hk)
  · rw [getD_set_ne e]
    exact h.2 j (by omega)
theorem t_Bodies_loop (hX : Cl sc X) (hB : 10 ≤ B.1) (hq : ∀ w f, tbR (BTf 18) w → fsR 19 f → Q none (BdW w f (nI 1822))) : ∀ (n k : Nat), k + n = 18 → ∀ (w f : List Int32), tbR (BTf k) w → fsR k f → X B 0 23 [some (.ref 0), some (.int (nI k))] [] (BdW w f (nI (BTf k).length)) Q := by
  intro n
  induction n with
  | zero =>
    intro k hk w f hw hf
    have : k = 18 := by omega
    subst this
    repeat refine hX ?_
    rw [hf.1]
    refine And.intro (fun _ => ?_) (fun h => absurd (by decide) h)
    repeat refine hX ?_
    rw [hf.1, show nI 19 - 1 = nI 18 from nI_pred 18]
    refine And.intro (vp_in_nI (by rw [hf.1]; omega) (by rw [hf.1]; omega)) ?_
    rw [nI_clamp (by omega)]
    repeat refine hX ?_
    have := hq w _ hw (fsR_push hf (by omega))
    rw [← BTf_18] at this
    exact this
  | succ n ih =>
    intro k hk w f hw hf
    have hle := BTf_le (k := k + 1) (by omega)
    rw [BTf_succ, List.length_append] at hle
    repeat refine hX ?_
    rw [hf.1, show nI k + 1 = nI (k + 1) from (nI_succ k).symm]
    refine And.intro (fun h => absurd ((nle (by omega) (by omega)).mp h) (by omega)) (fun _ => ?_)
    repeat refine hX ?_
    refine And.intro (vp_in_nI (by rw [hf.1]; omega) (by rw [hf.1]; omega)) ?_
    rw [nI_clamp (by omega)]
    repeat refine hX ?_
    refine And.intro (by decide) ?_
    repeat refine hX ?_
    refine And.intro (by decide) ?_
    rw [show nI k / 6 = nI (k / 6) from ndiv (b := 6) (by omega) (by omega) (by omega), show nI k - nI (k / 6) * 6 = nI (k % 6) by
      have := nrem (a := k) (b := 6) (by omega) (by omega) (by omega)
      rw [ndiv (by omega) (by omega) (by omega)] at this
      exact this]
    repeat refine hX ?_
    rw [show nI (k % 6) + 1 = nI (k % 6 + 1) from (nI_succ _).symm]
    refine And.intro trivial (cM [0, 1, 2] [.ref 0, .int (nI (k / 6)), .int 0, .int 0, .int 1, .int (nI (k % 6 + 1))] (BdW w (f.set k (nI (BTf k).length)) (nI (BTf k).length)) (fun w2 : List Int32 => tbR (BTf (k + 1)) w2) (fun _ => none) (fun w2 => BdW w2 (f.set k (nI (BTf k).length)) (nI (BTf (k + 1)).length)) (fun w2 => BdW w2 (f.set k (nI (BTf k).length)) (nI (BTf (k + 1)).length)) (fun _ => []) (by omega) rfl rfl rfl (fun _ => rfl) (fun _ => rfl) (fun _ => rfl) (fun Q' hQ' => t_spell (parts := k / 6) hX (by omega) (k % 6 + 1) (B := (B.1 - 1, 0, 0)) (by show k % 6 + 1 + 2 ≤ B.1 - 1; omega) Q' [] 1 (BTf k) w (by simp; omega) (fun c hc => by simp at hc) (by omega) (fun _ => by omega) hw hle (fun w2 hw2 => by
      have e : BTf k ++ (spF (k / 6) (k % 6 + 1) 1).map ([] ++ ·) = BTf (k + 1) := by rw [BTf_succ]; simp
      rw [e] at hw2
      have := hQ' w2 hw2
      rw [BTf_succ, List.length_append] at this
      exact this)) (fun w2 hw2 => ?_))
    iterate 2 refine hX ?_
    rw [show nI k + 1 = nI (k + 1) from (nI_succ k).symm]
    exact ih (k + 1) (by omega) w2 _ hw2 (fsR_push hf (by omega))
theorem t_Bodies (hX : Cl sc X) (hB : 10 ≤ B.1 ∧ 2 ≤ B.2.1 ∧ 1841 ≤ B.2.2) (hq : ∀ w f, tbR (BTf 18) w → fsR 19 f → Q none (BdW w f (nI 1822))) : X B 0 0 [some (.ref 0), none] [] [.inr (0, [.null, .null, .int 0])] Q := by
  obtain ⟨b1, b2, b3⟩ := hB
  repeat refine hX ?_
  refine And.intro ⟨by omega, Nat.le_of_ble_eq_true rfl⟩ ?_
  repeat refine hX ?_
  refine And.intro (by decide) (And.intro ⟨by decide, by omega, by show 1822 ≤ _; omega⟩ ?_)
  repeat refine hX ?_
  refine And.intro (by decide) (And.intro ⟨by decide, by show 1 ≤ B.2.1 - 1; omega, by show 19 ≤ B.2.2 - 1822; omega⟩ ?_)
  iterate 3 refine hX ?_
  exact t_Bodies_loop (B := (B.1, B.2.1 - 1 - 1, B.2.2 - 1822 - 19)) hX b1 hq 18 0 rfl _ _ ⟨by show (List.replicate 1822 (0 : Int32)).length = 1822; rw [List.length_replicate], by simp [BTf], fun i hi => by simp [BTf] at hi⟩ ⟨by show (List.replicate 19 (0 : Int32)).length = 19; rw [List.length_replicate], fun j hj => by omega⟩
theorem t_bound (hX : Cl sc X) {n : Int32} {k : Nat} (hk : k < 19) (hf : f.length = 19) (hq : Q (some (.int (f.getD k 0))) (BdW w f n)) : X B 7 0 [some (.ref 0), some (.int (nI k))] [] (BdW w f n) Q := by
  repeat refine hX ?_
  refine And.intro (fun h => absurd h (nneg (by omega))) (fun _ => ?_)
  repeat refine hX ?_
  rw [hf]
  refine And.intro (fun h => absurd ((nle (by omega) (by omega)).mp h) (by omega)) (fun _ => ?_)
  repeat refine hX ?_
  refine And.intro (vp_in_nI (by omega) (by omega)) ?_
  repeat refine hX ?_
  show Q (some (.int (f.getD (nI k).toNatClampNeg 0))) _
  rw [nI_clamp (by omega)]
  exact hq
theorem t_first (hX : Cl sc X) (hB : 1 ≤ B.1) {n : Int32} {p k : Nat} (hp : p ≤ 2) (hk : 1 ≤ k ∧ k ≤ 6) (hf : f.length = 19) (hq : Q (some (.int (f.getD (p * 6 + k - 1) 0))) (BdW w f n)) : X B 1 0 [some (.ref 0), some (.int (nI p)), some (.int (nI k))] [] (BdW w f n) Q := by
  repeat refine hX ?_
  rw [show nI p * 6 = nI (p * 6) from nmul p 6, nadd, show nI (p * 6 + k) - 1 = nI (p * 6 + k - 1) from nsub (b := 1) (by omega)]
  refine And.intro trivial (cP [0, 1, 2] [.ref 0, .int (nI (p * 6 + k - 1))] (BdW w f n) (some (.int (f.getD (p * 6 + k - 1) 0))) [.int (f.getD (p * 6 + k - 1) 0)] hB rfl rfl rfl rfl (fun Q' hQ' => t_bound hX (by omega) hf hQ') ?_)
  repeat refine hX ?_
  exact hq
theorem t_end (hX : Cl sc X) (hB : 1 ≤ B.1) {n : Int32} {p k : Nat} (hp : p ≤ 2) (hk : 1 ≤ k ∧ k ≤ 6) (hf : f.length = 19) (hq : Q (some (.int (f.getD (p * 6 + k) 0))) (BdW w f n)) : X B 2 0 [some (.ref 0), some (.int (nI p)), some (.int (nI k))] [] (BdW w f n) Q := by
  repeat refine hX ?_
  rw [show nI p * 6 = nI (p * 6) from nmul p 6, nadd]
  refine And.intro trivial (cP [0, 1, 2] [.ref 0, .int (nI (p * 6 + k))] (BdW w f n) (some (.int (f.getD (p * 6 + k) 0))) [.int (f.getD (p * 6 + k) 0)] hB rfl rfl rfl rfl (fun Q' hQ' => t_bound hX (by omega) hf hQ') ?_)
  repeat refine hX ?_
  exact hq
theorem t_bword (hX : Cl sc X) {n : Int32} {k : Nat} (hk : k < 1822) (hw : w.length = 1822) (hq : Q (some (.int (w.getD k 0))) (BdW w f n)) : X B 3 0 [some (.ref 0), some (.int (nI k))] [] (BdW w f n) Q := by
  repeat refine hX ?_
  refine And.intro (fun h => absurd h (nneg (by omega))) (fun _ => ?_)
  repeat refine hX ?_
  refine And.intro (fun h => absurd ((nle (a := 1822) (by omega) (by omega)).mp h) (by omega)) (fun _ => ?_)
  repeat refine hX ?_
  refine And.intro (vp_in_nI (by omega) (by omega)) ?_
  repeat refine hX ?_
  show Q (some (.int (w.getD (nI k).toNatClampNeg 0))) _
  rw [nI_clamp (by omega)]
  exact hq
end SP
