/-! A call over the whole heap of the caller. -/
def rfK (n : Nat) (v : Value) : Bool := match v with
  | .ref i => Nat.ble (i + 1) n
  | _ => true
def rfC (n : Nat) (c : pC) : Bool := match c with
  | .inl _ => true
  | .inr o => o.2.all (rfK n)
theorem rnv_id {n : Nat} {v : Value} (h : rfK n v = true) : rnv (List.range n) v = v := by
  cases v with
  | ref i =>
    have : i < n := Nat.le_of_ble_eq_true h
    simp only [rnv, pg_eq, List.getElem?_range this]
  | _ => rfl
theorem rnc_id {n : Nat} {c : pC} (h : rfC n c = true) : rnc (List.range n) c = c := by
  cases c with
  | inl xs => rfl
  | inr o =>
    have h2 : ∀ v ∈ o.2, rfK n v = true := List.all_eq_true.mp h
    have e : o.2.map (rnv (List.range n)) = o.2 := by
      conv => rhs; rw [← List.map_id o.2]
      exact List.map_congr_left (fun v hv => rnv_id (h2 v hv))
    show Sum.inr (o.1, o.2.map (rnv (List.range n))) = Sum.inr o
    rw [e]
theorem va_nd_of : ∀ (l : List Nat), l.Nodup → va_nd l = true
  | [], _ => rfl
  | a :: l, h => by
    rw [List.nodup_cons] at h
    simp only [va_nd, Bool.and_eq_true, decide_eq_true_eq]
    exact ⟨h.1, va_nd_of l h.2⟩
theorem lput_range {α : Type} (xs l : List α) (h : xs.length = l.length) : lput (List.range l.length) xs l = xs := by
  have hn := va_nd_of _ (List.nodup_range (n := l.length))
  apply List.ext_getElem?
  intro i
  by_cases hi : i < l.length
  · exact lput_at (List.range l.length) xs l i i hn (List.getElem?_range hi) hi (by rw [List.length_range]; omega)
  · rw [lput_new _ _ _ _ (by rw [List.length_range]; omega) (by omega), List.length_range, show l.length + (i - l.length) = i by omega]
theorem map_pg_range {α : Type} (l : List α) : (List.range l.length).map (pg l) = l.map some := by
  apply List.ext_getElem?
  intro i
  rw [List.getElem?_map, List.getElem?_map]
  by_cases hi : i < l.length
  · rw [List.getElem?_range hi, List.getElem?_eq_getElem hi]
    show some (pg l i) = _
    rw [pg_eq, List.getElem?_eq_getElem hi]; rfl
  · rw [List.getElem?_eq_none (by rw [List.length_range]; omega), List.getElem?_eq_none (by omega)]; rfl
def ckW (av st : List Value) (h : pH) (na maxL : Nat) : Bool := h.all (rfC h.length) && (av.all (rfK h.length) && (Nat.beq av.length na && (Nat.ble na st.length && (Nat.ble ((st.drop na).map fun v => v.category).sum 8 && (Nat.ble (pEnt av).length maxL && pNoD av)))))
def noR (r : Option Value) : Bool := match r with
  | some (.ref _) => false
  | _ => true
def rps (r : Option Value) (st : List Value) : List Value := match r with
  | none => st
  | some v => v :: st
theorem rps_eq {ρ : List Nat} {r : Option Value} {st : List Value} (h : noR r = true) : rpush ρ r st = rps r st := by
  cases r with
  | none => rfl
  | some v =>
    cases v with
    | ref i => cases h
    | _ => rfl
theorem cMw {X : pX} {B : pB} {me : Nat} {ls : pL} {st : List Value} {h : pH} {Q : pQ} {cid na maxL n : Nat} (av : List Value) {U : Type} (P : U → Prop) (r : U → Option Value) (h2 : U → pH) (h1 : 1 ≤ B.1) (hk : ckW av st h na maxL = true) (ha : (st.take na).reverse = av)
    (hlen : ∀ u, (h2 u).length = h.length) (hrf : ∀ u, (h2 u).all (rfC h.length) = true) (hr : ∀ u, noR (r u) = true) (hcal : ∀ Q' : pQ, (∀ u, P u → Q' (r u) (h2 u)) → X (B.1 - 1, 0, 0) cid 0 (pEntry av maxL) [] h Q') (kk : ∀ u, P u → X B me n ls (rps (r u) (st.drop na)) (h2 u) Q) : oCall cid na maxL n X B me ls st h Q := by
  simp only [ckW, Bool.and_eq_true] at hk
  obtain ⟨k1, k2, k3, k4, k5, k6, k7⟩ := hk
  have e1 : h.map (fun c => some (rnc (List.range h.length) c)) = h.map some := List.map_congr_left (fun c hc => by rw [rnc_id (List.all_eq_true.mp k1 c hc)])
  have e2 : av.map (rnv (List.range h.length)) = av := by
    conv => rhs; rw [← List.map_id av]
    exact List.map_congr_left (fun v hv => rnv_id (List.all_eq_true.mp k2 v hv))
  refine ⟨List.range h.length, av, h, 0, 0, fun r' h' => ∃ u, P u ∧ r' = r u ∧ h' = h2 u, ⟨⟨h1, Nat.zero_le _, Nat.zero_le _⟩, va_nd_of _ List.nodup_range, by rw [map_pg_range, e1], by rw [e2, ha], ⟨Nat.eq_of_beq_eq_true k3, Nat.le_of_ble_eq_true k4⟩, Nat.le_of_ble_eq_true k5, Nat.le_of_ble_eq_true k6, k7⟩, hcal _ (fun u hu => ⟨u, hu, rfl, rfl⟩), ?_⟩
  rintro r' h' ⟨u, hu, rfl, rfl⟩
  have e : rext (List.range h.length) h.length (h2 u) = List.range h.length := by rw [rext, hlen u, List.length_range, Nat.sub_self]; simp
  have e3 : (h2 u).map (rnc (List.range h.length)) = h2 u := by
    conv => rhs; rw [← List.map_id (h2 u)]
    exact List.map_congr_left (fun c hc => rnc_id (List.all_eq_true.mp (hrf u) c hc))
  refine ⟨by rw [hlen u, List.length_range]; exact Nat.le_refl _, ?_⟩
  rw [e, hput_eq, e3, lput_range _ _ (hlen u), rps_eq (hr u)]
  exact kk u hu
theorem cPw {X : pX} {B : pB} {me : Nat} {ls : pL} {st : List Value} {h : pH} {Q : pQ} {cid na maxL n : Nat} (av : List Value) (r : Option Value) (h1 : 1 ≤ B.1) (hk : ckW av st h na maxL = true) (ha : (st.take na).reverse = av) (hr : noR r = true) (hcal : ∀ Q' : pQ, Q' r h → X (B.1 - 1, 0, 0) cid 0 (pEntry av maxL) [] h Q') (kk : X B me n ls (rps r (st.drop na)) h Q) : oCall cid na maxL n X B me ls st h Q := by
  have hk2 := hk
  simp only [ckW, Bool.and_eq_true] at hk2
  exact cMw av (fun _ : Unit => True) (fun _ => r) (fun _ => h) h1 hk ha (fun _ => rfl) (fun _ => hk2.1) (fun _ => hr) (fun Q' hQ' => hcal Q' (hQ' () trivial)) (fun _ _ => kk)
