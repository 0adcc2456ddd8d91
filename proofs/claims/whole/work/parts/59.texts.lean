/-! Texts. -/
theorem ok_str0 {mt : Nat → pM} {law : Nat} {M : pM} {il : Bool} {sc : List Int32} {pc : Nat} (hd : decode M.2.1 pc = .ok (.ldc 28, 2)) (hc : M.1.cls = RX0) : pOk mt law M il sc pc (oStr 0 (pc + 2)) := by
  intro l D cI cO adK adV b B id ls st h Q hM hL hop p e R s m args below meth c H locs cells slots mc ms Z A as0 bs ws cls cst hC hX hw hP hD hS hl hst hB hF
  subst hM
  refine va_ldcS (q := adK 0) hC.1 hC.2.1 (hc ▸ hC.2.2.2.1) hC.2.2.2.2.2.2.2.2.2.1.2.1.1 hd ?_
  exact hop p e R s m args below meth c H locs cells slots mc ms Z A as0 bs ws cls _ hC hX hw hP hD hS hl (sC rfl hst) hB hF
theorem ok_str1 {mt : Nat → pM} {law : Nat} {M : pM} {il : Bool} {sc : List Int32} {pc : Nat} (hd : decode M.2.1 pc = .ok (.ldc 28, 2)) (hc : M.1.cls = RX1) : pOk mt law M il sc pc (oStr 1 (pc + 2)) := by
  intro l D cI cO adK adV b B id ls st h Q hM hL hop p e R s m args below meth c H locs cells slots mc ms Z A as0 bs ws cls cst hC hX hw hP hD hS hl hst hB hF
  subst hM
  refine va_ldcS (q := adK 1) hC.1 hC.2.1 (hc ▸ hC.2.2.2.1) hC.2.2.2.2.2.2.2.2.2.1.2.1.2.1 hd ?_
  exact hop p e R s m args below meth c H locs cells slots mc ms Z A as0 bs ws cls _ hC hX hw hP hD hS hl (sC rfl hst) hB hF
theorem ok_str2 {mt : Nat → pM} {law : Nat} {M : pM} {il : Bool} {sc : List Int32} {pc : Nat} (hd : decode M.2.1 pc = .ok (.ldc 40, 2)) (hc : M.1.cls = RX1) : pOk mt law M il sc pc (oStr 2 (pc + 2)) := by
  intro l D cI cO adK adV b B id ls st h Q hM hL hop p e R s m args below meth c H locs cells slots mc ms Z A as0 bs ws cls cst hC hX hw hP hD hS hl hst hB hF
  subst hM
  refine va_ldcS (q := adK 2) hC.1 hC.2.1 (hc ▸ hC.2.2.2.1) hC.2.2.2.2.2.2.2.2.2.1.2.1.2.2.1 hd ?_
  exact hop p e R s m args below meth c H locs cells slots mc ms Z A as0 bs ws cls _ hC hX hw hP hD hS hl (sC rfl hst) hB hF
theorem ok_str3 {mt : Nat → pM} {law : Nat} {M : pM} {il : Bool} {sc : List Int32} {pc : Nat} (hd : decode M.2.1 pc = .ok (.ldc 42, 2)) (hc : M.1.cls = RX1) : pOk mt law M il sc pc (oStr 3 (pc + 2)) := by
  intro l D cI cO adK adV b B id ls st h Q hM hL hop p e R s m args below meth c H locs cells slots mc ms Z A as0 bs ws cls cst hC hX hw hP hD hS hl hst hB hF
  subst hM
  refine va_ldcS (q := adK 3) hC.1 hC.2.1 (hc ▸ hC.2.2.2.1) hC.2.2.2.2.2.2.2.2.2.1.2.1.2.2.2.1 hd ?_
  exact hop p e R s m args below meth c H locs cells slots mc ms Z A as0 bs ws cls _ hC hX hw hP hD hS hl (sC rfl hst) hB hF
theorem ok_str4 {mt : Nat → pM} {law : Nat} {M : pM} {il : Bool} {sc : List Int32} {pc : Nat} (hd : decode M.2.1 pc = .ok (.ldc 44, 2)) (hc : M.1.cls = RX1) : pOk mt law M il sc pc (oStr 4 (pc + 2)) := by
  intro l D cI cO adK adV b B id ls st h Q hM hL hop p e R s m args below meth c H locs cells slots mc ms Z A as0 bs ws cls cst hC hX hw hP hD hS hl hst hB hF
  subst hM
  refine va_ldcS (q := adK 4) hC.1 hC.2.1 (hc ▸ hC.2.2.2.1) hC.2.2.2.2.2.2.2.2.2.1.2.1.2.2.2.2 hd ?_
  exact hop p e R s m args below meth c H locs cells slots mc ms Z A as0 bs ws cls _ hC hX hw hP hD hS hl (sC rfl hst) hB hF
theorem ok_txtLength {mt : Nat → pM} {law : Nat} {M : pM} {il : Bool} {sc : List Int32} {pc : Nat} {i : Nat} (hd : decode M.2.1 pc = .ok (.invokevirtual i, 3)) (hl1 : Cond.methodLink M.1.cls i yJ0_length_8abf5 ∈ lw_good) : pOk mt law M il sc pc (oTxtLength (pc + 3)) := sorry
theorem ok_txtCharAt {mt : Nat → pM} {law : Nat} {M : pM} {il : Bool} {sc : List Int32} {pc : Nat} {i : Nat} (hd : decode M.2.1 pc = .ok (.invokevirtual i, 3)) (hl1 : Cond.methodLink M.1.cls i yJ0_charAt_5068e ∈ lw_good) : pOk mt law M il sc pc (oTxtCharAt (pc + 3)) := sorry
theorem ok_txtIndexOf {mt : Nat → pM} {law : Nat} {M : pM} {il : Bool} {sc : List Int32} {pc : Nat} {i : Nat} (hd : decode M.2.1 pc = .ok (.invokevirtual i, 3)) (hl1 : Cond.methodLink M.1.cls i yJ0_indexOf_0f7a4 ∈ lw_good) : pOk mt law M il sc pc (oTxtIndexOf (pc + 3)) := sorry
theorem ok_copyR {mt : Nat → pM} {law : Nat} {M : pM} {il : Bool} {sc : List Int32} {pc : Nat} {i : Nat} (hd : decode M.2.1 pc = .ok (.invokestatic i, 3)) (hl1 : Cond.methodLink M.1.cls i yJ7_copyOfRange_feecc ∈ lw_good) : pOk mt law M il sc pc (oCopyR (pc + 3)) := sorry
