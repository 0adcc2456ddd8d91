set_option maxRecDepth 20000 in
set_option maxHeartbeats 4000000 in
theorem ok_X0_init {sc : List Int32} : ∀ pc, pOk mtOf 189 M_X0_init false sc pc (cd_X0_init pc) := by
  unfold cd_X0_init
  exact ok_node
    (ok_node
    (ok_node
    (ok_node
    (ok_node
    (ok_leaf (ok_aload_n (show decode cX0_init 0 = .ok (.aload_n 0, 1) by decide +kernel) rfl))
    (ok_node
    (ok_leaf (ok_obj (show decode cX0_init 1 = .ok (.invokespecial 1, 3) by decide +kernel) wd_0 wd_1 wd_2))
    (ok_leaf (ok_aload_n (show decode cX0_init 4 = .ok (.aload_n 0, 1) by decide +kernel) rfl))))
    (ok_node
    (ok_leaf (ok_sipush (show decode cX0_init 5 = .ok (.sipush 1822, 3) by decide +kernel) (by decide +kernel)))
    (ok_node
    (ok_leaf (ok_newarray (show decode cX0_init 8 = .ok (.newarray .int, 2) by decide +kernel) wd_3))
    (ok_leaf (ok_putR (show decode cX0_init 10 = .ok (.putfield 9, 3) by decide +kernel) (Or.inr ⟨fdF_X0 (by decide) wd_4 rfl rfl, rfl, fun r hr => by cases hr; rfl⟩) (Or.inr ⟨_, rfl⟩))))))
    (ok_node
    (ok_node
    (ok_leaf (ok_aload_n (show decode cX0_init 13 = .ok (.aload_n 0, 1) by decide +kernel) rfl))
    (ok_node
    (ok_leaf (ok_bipush (show decode cX0_init 14 = .ok (.bipush 19, 2) by decide +kernel) (by decide +kernel)))
    (ok_leaf (ok_newarray (show decode cX0_init 16 = .ok (.newarray .int, 2) by decide +kernel) wd_3))))
    (ok_node
    (ok_leaf (ok_putR (show decode cX0_init 18 = .ok (.putfield 13, 3) by decide +kernel) (Or.inr ⟨fdF_X0 (by decide) wd_5 rfl rfl, rfl, fun r hr => by cases hr; rfl⟩) (Or.inr ⟨_, rfl⟩)))
    (ok_node
    (ok_leaf (ok_iconst (show decode cX0_init 21 = .ok (.iconst 0, 1) by decide +kernel) (by decide +kernel)))
    (ok_leaf (ok_istore_n (show decode cX0_init 22 = .ok (.istore_n 1, 1) by decide +kernel) rfl))))))
    (ok_node
    (ok_node
    (ok_node
    (ok_leaf (ok_iload_n (show decode cX0_init 23 = .ok (.iload_n 1, 1) by decide +kernel) rfl))
    (ok_node
    (ok_leaf (ok_iconst (show decode cX0_init 24 = .ok (.iconst 1, 1) by decide +kernel) (by decide +kernel)))
    (ok_leaf (ok_iadd (show decode cX0_init 25 = .ok (.iadd, 1) by decide +kernel)))))
    (ok_node
    (ok_leaf (ok_aload_n (show decode cX0_init 26 = .ok (.aload_n 0, 1) by decide +kernel) rfl))
    (ok_node
    (ok_leaf (ok_getfield (show decode cX0_init 27 = .ok (.getfield 13, 3) by decide +kernel) (Or.inr (fdF_X0 (by decide) wd_5 rfl rfl))))
    (ok_leaf (ok_arraylength (show decode cX0_init 30 = .ok (.arraylength, 1) by decide +kernel))))))
    (ok_node
    (ok_node
    (ok_leaf (ok_icmp_ge (show decode cX0_init 31 = .ok (.if_icmp .ge 36, 3) by decide +kernel) (by decide +kernel)))
    (ok_node
    (ok_leaf (ok_aload_n (show decode cX0_init 34 = .ok (.aload_n 0, 1) by decide +kernel) rfl))
    (ok_leaf (ok_getfield (show decode cX0_init 35 = .ok (.getfield 13, 3) by decide +kernel) (Or.inr (fdF_X0 (by decide) wd_5 rfl rfl))))))
    (ok_node
    (ok_node
    (ok_leaf (ok_iload_n (show decode cX0_init 38 = .ok (.iload_n 1, 1) by decide +kernel) rfl))
    (ok_leaf (ok_aload_n (show decode cX0_init 39 = .ok (.aload_n 0, 1) by decide +kernel) rfl)))
    (ok_node
    (ok_leaf (ok_getfield (show decode cX0_init 40 = .ok (.getfield 16, 3) by decide +kernel) (Or.inl (fd_X0 (by decide) wd_6 rfl rfl))))
    (ok_leaf (ok_iastore (show decode cX0_init 43 = .ok (.iastore, 1) by decide +kernel))))))))
    (ok_node
    (ok_node
    (ok_node
    (ok_node
    (ok_leaf (ok_aload_n (show decode cX0_init 44 = .ok (.aload_n 0, 1) by decide +kernel) rfl))
    (ok_node
    (ok_leaf (ok_iload_n (show decode cX0_init 45 = .ok (.iload_n 1, 1) by decide +kernel) rfl))
    (ok_leaf (ok_bipush (show decode cX0_init 46 = .ok (.bipush 6, 2) by decide +kernel) (by decide +kernel)))))
    (ok_node
    (ok_leaf (ok_idiv (show decode cX0_init 48 = .ok (.idiv, 1) by decide +kernel)))
    (ok_node
    (ok_leaf (ok_iconst (show decode cX0_init 49 = .ok (.iconst 0, 1) by decide +kernel) (by decide +kernel)))
    (ok_leaf (ok_iconst (show decode cX0_init 50 = .ok (.iconst 0, 1) by decide +kernel) (by decide +kernel))))))
    (ok_node
    (ok_node
    (ok_leaf (ok_iconst (show decode cX0_init 51 = .ok (.iconst 1, 1) by decide +kernel) (by decide +kernel)))
    (ok_node
    (ok_leaf (ok_iload_n (show decode cX0_init 52 = .ok (.iload_n 1, 1) by decide +kernel) rfl))
    (ok_leaf (ok_bipush (show decode cX0_init 53 = .ok (.bipush 6, 2) by decide +kernel) (by decide +kernel)))))
    (ok_node
    (ok_node
    (ok_leaf (ok_irem (show decode cX0_init 55 = .ok (.irem, 1) by decide +kernel)))
    (ok_leaf (ok_iconst (show decode cX0_init 56 = .ok (.iconst 1, 1) by decide +kernel) (by decide +kernel))))
    (ok_node
    (ok_leaf (ok_iadd (show decode cX0_init 57 = .ok (.iadd, 1) by decide +kernel)))
    (ok_leaf (ok_callV (C := RX0) (T := TX0) (N := 3) (Mc := M_X0_spell) (show decode cX0_init 58 = .ok (.invokevirtual 20, 3) by decide +kernel) rfl (by decide) (by decide +kernel) rfl rfl wd_7 wd_8 wd_9 wd_10 wd_11 ⟨by decide +kernel, by decide +kernel, by decide +kernel⟩ (by decide)))))))
    (ok_node
    (ok_node
    (ok_node
    (ok_leaf (ok_iinc (show decode cX0_init 61 = .ok (.iinc 1 1, 3) by decide +kernel) (by decide +kernel)))
    (ok_node
    (ok_leaf (ok_goto (show decode cX0_init 64 = .ok (.goto (-41), 3) by decide +kernel) (by decide +kernel)))
    (ok_leaf (ok_aload_n (show decode cX0_init 67 = .ok (.aload_n 0, 1) by decide +kernel) rfl))))
    (ok_node
    (ok_leaf (ok_getfield (show decode cX0_init 68 = .ok (.getfield 13, 3) by decide +kernel) (Or.inr (fdF_X0 (by decide) wd_5 rfl rfl))))
    (ok_node
    (ok_leaf (ok_aload_n (show decode cX0_init 71 = .ok (.aload_n 0, 1) by decide +kernel) rfl))
    (ok_leaf (ok_getfield (show decode cX0_init 72 = .ok (.getfield 13, 3) by decide +kernel) (Or.inr (fdF_X0 (by decide) wd_5 rfl rfl)))))))
    (ok_node
    (ok_node
    (ok_leaf (ok_arraylength (show decode cX0_init 75 = .ok (.arraylength, 1) by decide +kernel)))
    (ok_node
    (ok_leaf (ok_iconst (show decode cX0_init 76 = .ok (.iconst 1, 1) by decide +kernel) (by decide +kernel)))
    (ok_leaf (ok_isub (show decode cX0_init 77 = .ok (.isub, 1) by decide +kernel)))))
    (ok_node
    (ok_node
    (ok_leaf (ok_aload_n (show decode cX0_init 78 = .ok (.aload_n 0, 1) by decide +kernel) rfl))
    (ok_leaf (ok_getfield (show decode cX0_init 79 = .ok (.getfield 16, 3) by decide +kernel) (Or.inl (fd_X0 (by decide) wd_6 rfl rfl)))))
    (ok_node
    (ok_leaf (ok_iastore (show decode cX0_init 82 = .ok (.iastore, 1) by decide +kernel)))
    (ok_leaf (ok_return (show decode cX0_init 83 = .ok (.return_, 1) by decide +kernel) rfl)))))))
set_option maxRecDepth 20000 in
set_option maxHeartbeats 4000000 in
theorem ok_X0_first {sc : List Int32} : ∀ pc, pOk mtOf 189 M_X0_first false sc pc (cd_X0_first pc) := by
  unfold cd_X0_first
  exact ok_node
    (ok_node
    (ok_node
    (ok_leaf (ok_aload_n (show decode cX0_first 0 = .ok (.aload_n 0, 1) by decide +kernel) rfl))
    (ok_leaf (ok_iload_n (show decode cX0_first 1 = .ok (.iload_n 1, 1) by decide +kernel) rfl)))
    (ok_node
    (ok_leaf (ok_bipush (show decode cX0_first 2 = .ok (.bipush 6, 2) by decide +kernel) (by decide +kernel)))
    (ok_node
    (ok_leaf (ok_imul (show decode cX0_first 4 = .ok (.imul, 1) by decide +kernel)))
    (ok_leaf (ok_iload_n (show decode cX0_first 5 = .ok (.iload_n 2, 1) by decide +kernel) rfl)))))
    (ok_node
    (ok_node
    (ok_leaf (ok_iadd (show decode cX0_first 6 = .ok (.iadd, 1) by decide +kernel)))
    (ok_leaf (ok_iconst (show decode cX0_first 7 = .ok (.iconst 1, 1) by decide +kernel) (by decide +kernel))))
    (ok_node
    (ok_leaf (ok_isub (show decode cX0_first 8 = .ok (.isub, 1) by decide +kernel)))
    (ok_node
    (ok_leaf (ok_callV (C := RX0) (T := TX0) (N := 3) (Mc := M_X0_bound) (show decode cX0_first 9 = .ok (.invokevirtual 24, 3) by decide +kernel) rfl (by decide) (by decide +kernel) rfl rfl wd_12 wd_13 wd_14 wd_10 wd_15 ⟨by decide +kernel, by decide +kernel, by decide +kernel⟩ (by decide)))
    (ok_leaf (ok_ireturn (show decode cX0_first 12 = .ok (.ireturn, 1) by decide +kernel) rfl)))))
set_option maxRecDepth 20000 in
set_option maxHeartbeats 4000000 in
theorem ok_X0_end {sc : List Int32} : ∀ pc, pOk mtOf 189 M_X0_end false sc pc (cd_X0_end pc) := by
  unfold cd_X0_end
  exact ok_node
    (ok_node
    (ok_node
    (ok_leaf (ok_aload_n (show decode cX0_end 0 = .ok (.aload_n 0, 1) by decide +kernel) rfl))
    (ok_leaf (ok_iload_n (show decode cX0_end 1 = .ok (.iload_n 1, 1) by decide +kernel) rfl)))
    (ok_node
    (ok_leaf (ok_bipush (show decode cX0_end 2 = .ok (.bipush 6, 2) by decide +kernel) (by decide +kernel)))
    (ok_leaf (ok_imul (show decode cX0_end 4 = .ok (.imul, 1) by decide +kernel)))))
    (ok_node
    (ok_node
    (ok_leaf (ok_iload_n (show decode cX0_end 5 = .ok (.iload_n 2, 1) by decide +kernel) rfl))
    (ok_leaf (ok_iadd (show decode cX0_end 6 = .ok (.iadd, 1) by decide +kernel))))
    (ok_node
    (ok_leaf (ok_callV (C := RX0) (T := TX0) (N := 3) (Mc := M_X0_bound) (show decode cX0_end 7 = .ok (.invokevirtual 24, 3) by decide +kernel) rfl (by decide) (by decide +kernel) rfl rfl wd_12 wd_13 wd_14 wd_10 wd_15 ⟨by decide +kernel, by decide +kernel, by decide +kernel⟩ (by decide)))
    (ok_leaf (ok_ireturn (show decode cX0_end 10 = .ok (.ireturn, 1) by decide +kernel) rfl))))
set_option maxRecDepth 20000 in
set_option maxHeartbeats 4000000 in
theorem ok_X0_word {sc : List Int32} : ∀ pc, pOk mtOf 189 M_X0_word false sc pc (cd_X0_word pc) := by
  unfold cd_X0_word
  exact ok_node
    (ok_node
    (ok_node
    (ok_leaf (ok_iload_n (show decode cX0_word 0 = .ok (.iload_n 1, 1) by decide +kernel) rfl))
    (ok_node
    (ok_leaf (ok_if_lt (show decode cX0_word 1 = .ok (.ifCond .lt 19, 3) by decide +kernel) (by decide +kernel)))
    (ok_leaf (ok_iload_n (show decode cX0_word 4 = .ok (.iload_n 1, 1) by decide +kernel) rfl))))
    (ok_node
    (ok_leaf (ok_sipush (show decode cX0_word 5 = .ok (.sipush 1822, 3) by decide +kernel) (by decide +kernel)))
    (ok_node
    (ok_leaf (ok_icmp_ge (show decode cX0_word 8 = .ok (.if_icmp .ge 12, 3) by decide +kernel) (by decide +kernel)))
    (ok_leaf (ok_aload_n (show decode cX0_word 11 = .ok (.aload_n 0, 1) by decide +kernel) rfl)))))
    (ok_node
    (ok_node
    (ok_leaf (ok_getfield (show decode cX0_word 12 = .ok (.getfield 9, 3) by decide +kernel) (Or.inr (fdF_X0 (by decide) wd_4 rfl rfl))))
    (ok_node
    (ok_leaf (ok_iload_n (show decode cX0_word 15 = .ok (.iload_n 1, 1) by decide +kernel) rfl))
    (ok_leaf (ok_iaload (show decode cX0_word 16 = .ok (.iaload, 1) by decide +kernel)))))
    (ok_node
    (ok_leaf (ok_goto (show decode cX0_word 17 = .ok (.goto 4, 3) by decide +kernel) (by decide +kernel)))
    (ok_node
    (ok_leaf (ok_iconst (show decode cX0_word 20 = .ok (.iconst 0, 1) by decide +kernel) (by decide +kernel)))
    (ok_leaf (ok_ireturn (show decode cX0_word 21 = .ok (.ireturn, 1) by decide +kernel) rfl)))))
set_option maxRecDepth 20000 in
set_option maxHeartbeats 4000000 in
theorem ok_X0_letterIn {sc : List Int32} : ∀ pc, pOk mtOf 189 M_X0_letterIn false sc pc (cd_X0_letterIn pc) := by
  unfold cd_X0_letterIn
  exact ok_node
    (ok_node
    (ok_node
    (ok_node
    (ok_leaf (ok_iload_n (show decode cX0_letterIn 0 = .ok (.iload_n 1, 1) by decide +kernel) rfl))
    (ok_node
    (ok_leaf (ok_if_lt (show decode cX0_letterIn 1 = .ok (.ifCond .lt 9, 3) by decide +kernel) (by decide +kernel)))
    (ok_leaf (ok_iload_n (show decode cX0_letterIn 4 = .ok (.iload_n 1, 1) by decide +kernel) rfl))))
    (ok_node
    (ok_node
    (ok_leaf (ok_bipush (show decode cX0_letterIn 5 = .ok (.bipush 6, 2) by decide +kernel) (by decide +kernel)))
    (ok_leaf (ok_icmp_lt (show decode cX0_letterIn 7 = .ok (.if_icmp .lt 5, 3) by decide +kernel) (by decide +kernel))))
    (ok_node
    (ok_leaf (ok_iconst (show decode cX0_letterIn 10 = .ok (.iconst 0, 1) by decide +kernel) (by decide +kernel)))
    (ok_leaf (ok_ireturn (show decode cX0_letterIn 11 = .ok (.ireturn, 1) by decide +kernel) rfl)))))
    (ok_node
    (ok_node
    (ok_node
    (ok_leaf (ok_iload_n (show decode cX0_letterIn 12 = .ok (.iload_n 0, 1) by decide +kernel) rfl))
    (ok_leaf (ok_iconst (show decode cX0_letterIn 13 = .ok (.iconst 3, 1) by decide +kernel) (by decide +kernel))))
    (ok_node
    (ok_leaf (ok_iload_n (show decode cX0_letterIn 14 = .ok (.iload_n 1, 1) by decide +kernel) rfl))
    (ok_leaf (ok_imul (show decode cX0_letterIn 15 = .ok (.imul, 1) by decide +kernel)))))
    (ok_node
    (ok_node
    (ok_leaf (ok_ishr (show decode cX0_letterIn 16 = .ok (.ishr, 1) by decide +kernel)))
    (ok_leaf (ok_bipush (show decode cX0_letterIn 17 = .ok (.bipush 7, 2) by decide +kernel) (by decide +kernel))))
    (ok_node
    (ok_leaf (ok_iand (show decode cX0_letterIn 19 = .ok (.iand, 1) by decide +kernel)))
    (ok_leaf (ok_istore_n (show decode cX0_letterIn 20 = .ok (.istore_n 2, 1) by decide +kernel) rfl))))))
    (ok_node
    (ok_node
    (ok_node
    (ok_leaf (ok_iload_n (show decode cX0_letterIn 21 = .ok (.iload_n 2, 1) by decide +kernel) rfl))
    (ok_node
    (ok_leaf (ok_iconst (show decode cX0_letterIn 22 = .ok (.iconst 1, 1) by decide +kernel) (by decide +kernel)))
    (ok_leaf (ok_icmp_lt (show decode cX0_letterIn 23 = .ok (.if_icmp .lt 23, 3) by decide +kernel) (by decide +kernel)))))
    (ok_node
    (ok_node
    (ok_leaf (ok_iload_n (show decode cX0_letterIn 26 = .ok (.iload_n 2, 1) by decide +kernel) rfl))
    (ok_leaf (ok_str0 (show decode cX0_letterIn 27 = .ok (.ldc 28, 2) by decide +kernel) rfl)))
    (ok_node
    (ok_leaf (ok_txtLength (show decode cX0_letterIn 29 = .ok (.invokevirtual 30, 3) by decide +kernel) wd_16))
    (ok_leaf (ok_icmp_gt (show decode cX0_letterIn 32 = .ok (.if_icmp .gt 14, 3) by decide +kernel) (by decide +kernel))))))
    (ok_node
    (ok_node
    (ok_node
    (ok_leaf (ok_str0 (show decode cX0_letterIn 35 = .ok (.ldc 28, 2) by decide +kernel) rfl))
    (ok_leaf (ok_iload_n (show decode cX0_letterIn 37 = .ok (.iload_n 2, 1) by decide +kernel) rfl)))
    (ok_node
    (ok_leaf (ok_iconst (show decode cX0_letterIn 38 = .ok (.iconst 1, 1) by decide +kernel) (by decide +kernel)))
    (ok_leaf (ok_isub (show decode cX0_letterIn 39 = .ok (.isub, 1) by decide +kernel)))))
    (ok_node
    (ok_node
    (ok_leaf (ok_txtCharAt (show decode cX0_letterIn 40 = .ok (.invokevirtual 36, 3) by decide +kernel) wd_17))
    (ok_leaf (ok_goto (show decode cX0_letterIn 43 = .ok (.goto 4, 3) by decide +kernel) (by decide +kernel))))
    (ok_node
    (ok_leaf (ok_iconst (show decode cX0_letterIn 46 = .ok (.iconst 0, 1) by decide +kernel) (by decide +kernel)))
    (ok_leaf (ok_ireturn (show decode cX0_letterIn 47 = .ok (.ireturn, 1) by decide +kernel) rfl))))))
set_option maxRecDepth 20000 in
set_option maxHeartbeats 4000000 in
theorem ok_X0_lettersIn {sc : List Int32} : ∀ pc, pOk mtOf 189 M_X0_lettersIn false sc pc (cd_X0_lettersIn pc) := by
  unfold cd_X0_lettersIn
  exact ok_node
    (ok_node
    (ok_node
    (ok_leaf (ok_iconst (show decode cX0_lettersIn 0 = .ok (.iconst 0, 1) by decide +kernel) (by decide +kernel)))
    (ok_node
    (ok_leaf (ok_istore_n (show decode cX0_lettersIn 1 = .ok (.istore_n 1, 1) by decide +kernel) rfl))
    (ok_leaf (ok_iload_n (show decode cX0_lettersIn 2 = .ok (.iload_n 1, 1) by decide +kernel) rfl))))
    (ok_node
    (ok_leaf (ok_bipush (show decode cX0_lettersIn 3 = .ok (.bipush 6, 2) by decide +kernel) (by decide +kernel)))
    (ok_node
    (ok_leaf (ok_icmp_ge (show decode cX0_lettersIn 5 = .ok (.if_icmp .ge 17, 3) by decide +kernel) (by decide +kernel)))
    (ok_leaf (ok_iload_n (show decode cX0_lettersIn 8 = .ok (.iload_n 0, 1) by decide +kernel) rfl)))))
    (ok_node
    (ok_node
    (ok_leaf (ok_iload_n (show decode cX0_lettersIn 9 = .ok (.iload_n 1, 1) by decide +kernel) rfl))
    (ok_node
    (ok_leaf (ok_callS (Mc := M_X0_letterIn) (show decode cX0_lettersIn 10 = .ok (.invokestatic 40, 3) by decide +kernel) rfl (by decide) (by decide +kernel) wd_18 wd_19 wd_10 wd_20 ⟨by decide +kernel, by decide +kernel, by decide +kernel⟩ (by decide)))
    (ok_leaf (ok_if_eq (show decode cX0_lettersIn 13 = .ok (.ifCond .eq 9, 3) by decide +kernel) (by decide +kernel)))))
    (ok_node
    (ok_node
    (ok_leaf (ok_iinc (show decode cX0_lettersIn 16 = .ok (.iinc 1 1, 3) by decide +kernel) (by decide +kernel)))
    (ok_leaf (ok_goto (show decode cX0_lettersIn 19 = .ok (.goto (-17), 3) by decide +kernel) (by decide +kernel))))
    (ok_node
    (ok_leaf (ok_iload_n (show decode cX0_lettersIn 22 = .ok (.iload_n 1, 1) by decide +kernel) rfl))
    (ok_leaf (ok_ireturn (show decode cX0_lettersIn 23 = .ok (.ireturn, 1) by decide +kernel) rfl)))))
set_option maxRecDepth 20000 in
set_option maxHeartbeats 4000000 in
theorem ok_X0_wordFor {sc : List Int32} : ∀ pc, pOk mtOf 189 M_X0_wordFor false sc pc (cd_X0_wordFor pc) := by
  unfold cd_X0_wordFor
  exact ok_node
    (ok_node
    (ok_node
    (ok_node
    (ok_leaf (ok_iconst (show decode cX0_wordFor 0 = .ok (.iconst 0, 1) by decide +kernel) (by decide +kernel)))
    (ok_node
    (ok_leaf (ok_istore_n (show decode cX0_wordFor 1 = .ok (.istore_n 1, 1) by decide +kernel) rfl))
    (ok_leaf (ok_iconst (show decode cX0_wordFor 2 = .ok (.iconst 0, 1) by decide +kernel) (by decide +kernel)))))
    (ok_node
    (ok_node
    (ok_leaf (ok_istore_n (show decode cX0_wordFor 3 = .ok (.istore_n 2, 1) by decide +kernel) rfl))
    (ok_leaf (ok_iload_n (show decode cX0_wordFor 4 = .ok (.iload_n 2, 1) by decide +kernel) rfl)))
    (ok_node
    (ok_leaf (ok_aload_n (show decode cX0_wordFor 5 = .ok (.aload_n 0, 1) by decide +kernel) rfl))
    (ok_leaf (ok_txtLength (show decode cX0_wordFor 6 = .ok (.invokevirtual 30, 3) by decide +kernel) wd_16)))))
    (ok_node
    (ok_node
    (ok_leaf (ok_icmp_ge (show decode cX0_wordFor 9 = .ok (.if_icmp .ge 34, 3) by decide +kernel) (by decide +kernel)))
    (ok_node
    (ok_leaf (ok_iload_n (show decode cX0_wordFor 12 = .ok (.iload_n 2, 1) by decide +kernel) rfl))
    (ok_leaf (ok_bipush (show decode cX0_wordFor 13 = .ok (.bipush 6, 2) by decide +kernel) (by decide +kernel)))))
    (ok_node
    (ok_node
    (ok_leaf (ok_icmp_ge (show decode cX0_wordFor 15 = .ok (.if_icmp .ge 28, 3) by decide +kernel) (by decide +kernel)))
    (ok_leaf (ok_iload_n (show decode cX0_wordFor 18 = .ok (.iload_n 1, 1) by decide +kernel) rfl)))
    (ok_node
    (ok_leaf (ok_str0 (show decode cX0_wordFor 19 = .ok (.ldc 28, 2) by decide +kernel) rfl))
    (ok_leaf (ok_aload_n (show decode cX0_wordFor 21 = .ok (.aload_n 0, 1) by decide +kernel) rfl))))))
    (ok_node
    (ok_node
    (ok_node
    (ok_leaf (ok_iload_n (show decode cX0_wordFor 22 = .ok (.iload_n 2, 1) by decide +kernel) rfl))
    (ok_node
    (ok_leaf (ok_txtCharAt (show decode cX0_wordFor 23 = .ok (.invokevirtual 36, 3) by decide +kernel) wd_17))
    (ok_leaf (ok_txtIndexOf (show decode cX0_wordFor 26 = .ok (.invokevirtual 44, 3) by decide +kernel) wd_21))))
    (ok_node
    (ok_node
    (ok_leaf (ok_iconst (show decode cX0_wordFor 29 = .ok (.iconst 1, 1) by decide +kernel) (by decide +kernel)))
    (ok_leaf (ok_iadd (show decode cX0_wordFor 30 = .ok (.iadd, 1) by decide +kernel))))
    (ok_node
    (ok_leaf (ok_iconst (show decode cX0_wordFor 31 = .ok (.iconst 3, 1) by decide +kernel) (by decide +kernel)))
    (ok_leaf (ok_iload_n (show decode cX0_wordFor 32 = .ok (.iload_n 2, 1) by decide +kernel) rfl)))))
    (ok_node
    (ok_node
    (ok_node
    (ok_leaf (ok_imul (show decode cX0_wordFor 33 = .ok (.imul, 1) by decide +kernel)))
    (ok_leaf (ok_ishl (show decode cX0_wordFor 34 = .ok (.ishl, 1) by decide +kernel))))
    (ok_node
    (ok_leaf (ok_ior (show decode cX0_wordFor 35 = .ok (.ior, 1) by decide +kernel)))
    (ok_leaf (ok_istore_n (show decode cX0_wordFor 36 = .ok (.istore_n 1, 1) by decide +kernel) rfl))))
    (ok_node
    (ok_node
    (ok_leaf (ok_iinc (show decode cX0_wordFor 37 = .ok (.iinc 2 1, 3) by decide +kernel) (by decide +kernel)))
    (ok_leaf (ok_goto (show decode cX0_wordFor 40 = .ok (.goto (-36), 3) by decide +kernel) (by decide +kernel))))
    (ok_node
    (ok_leaf (ok_iload_n (show decode cX0_wordFor 43 = .ok (.iload_n 1, 1) by decide +kernel) rfl))
    (ok_leaf (ok_ireturn (show decode cX0_wordFor 44 = .ok (.ireturn, 1) by decide +kernel) rfl))))))
set_option maxRecDepth 20000 in
set_option maxHeartbeats 4000000 in
theorem ok_X0_bound {sc : List Int32} : ∀ pc, pOk mtOf 189 M_X0_bound false sc pc (cd_X0_bound pc) := by
  unfold cd_X0_bound
  exact ok_node
    (ok_node
    (ok_node
    (ok_leaf (ok_iload_n (show decode cX0_bound 0 = .ok (.iload_n 1, 1) by decide +kernel) rfl))
    (ok_node
    (ok_leaf (ok_if_lt (show decode cX0_bound 1 = .ok (.ifCond .lt 21, 3) by decide +kernel) (by decide +kernel)))
    (ok_leaf (ok_iload_n (show decode cX0_bound 4 = .ok (.iload_n 1, 1) by decide +kernel) rfl))))
    (ok_node
    (ok_node
    (ok_leaf (ok_aload_n (show decode cX0_bound 5 = .ok (.aload_n 0, 1) by decide +kernel) rfl))
    (ok_leaf (ok_getfield (show decode cX0_bound 6 = .ok (.getfield 13, 3) by decide +kernel) (Or.inr (fdF_X0 (by decide) wd_5 rfl rfl)))))
    (ok_node
    (ok_leaf (ok_arraylength (show decode cX0_bound 9 = .ok (.arraylength, 1) by decide +kernel)))
    (ok_leaf (ok_icmp_ge (show decode cX0_bound 10 = .ok (.if_icmp .ge 12, 3) by decide +kernel) (by decide +kernel))))))
    (ok_node
    (ok_node
    (ok_leaf (ok_aload_n (show decode cX0_bound 13 = .ok (.aload_n 0, 1) by decide +kernel) rfl))
    (ok_node
    (ok_leaf (ok_getfield (show decode cX0_bound 14 = .ok (.getfield 13, 3) by decide +kernel) (Or.inr (fdF_X0 (by decide) wd_5 rfl rfl))))
    (ok_leaf (ok_iload_n (show decode cX0_bound 17 = .ok (.iload_n 1, 1) by decide +kernel) rfl))))
    (ok_node
    (ok_node
    (ok_leaf (ok_iaload (show decode cX0_bound 18 = .ok (.iaload, 1) by decide +kernel)))
    (ok_leaf (ok_goto (show decode cX0_bound 19 = .ok (.goto 4, 3) by decide +kernel) (by decide +kernel))))
    (ok_node
    (ok_leaf (ok_iconst (show decode cX0_bound 22 = .ok (.iconst 0, 1) by decide +kernel) (by decide +kernel)))
    (ok_leaf (ok_ireturn (show decode cX0_bound 23 = .ok (.ireturn, 1) by decide +kernel) rfl)))))
set_option maxRecDepth 20000 in
set_option maxHeartbeats 4000000 in
theorem ok_X0_spell {sc : List Int32} : ∀ pc, pOk mtOf 189 M_X0_spell false sc pc (cd_X0_spell pc) := by
  unfold cd_X0_spell
  exact ok_node
    (ok_node
    (ok_node
    (ok_node
    (ok_node
    (ok_node
    (ok_leaf (ok_iload (show decode cX0_spell 0 = .ok (.iload 5, 2) by decide +kernel)))
    (ok_leaf (ok_if_le (show decode cX0_spell 2 = .ok (.ifCond .le 9, 3) by decide +kernel) (by decide +kernel))))
    (ok_node
    (ok_leaf (ok_iload_n (show decode cX0_spell 5 = .ok (.iload_n 3, 1) by decide +kernel) rfl))
    (ok_leaf (ok_bipush (show decode cX0_spell 6 = .ok (.bipush 6, 2) by decide +kernel) (by decide +kernel)))))
    (ok_node
    (ok_node
    (ok_leaf (ok_icmp_lt (show decode cX0_spell 8 = .ok (.if_icmp .lt 9, 3) by decide +kernel) (by decide +kernel)))
    (ok_leaf (ok_aload_n (show decode cX0_spell 11 = .ok (.aload_n 0, 1) by decide +kernel) rfl)))
    (ok_node
    (ok_leaf (ok_iload_n (show decode cX0_spell 12 = .ok (.iload_n 2, 1) by decide +kernel) rfl))
    (ok_node
    (ok_leaf (ok_callV (C := RX0) (T := TX0) (N := 3) (Mc := M_X0_keep) (show decode cX0_spell 13 = .ok (.invokevirtual 47, 3) by decide +kernel) rfl (by decide) (by decide +kernel) rfl rfl wd_22 wd_23 wd_24 wd_10 wd_25 ⟨by decide +kernel, by decide +kernel, by decide +kernel⟩ (by decide)))
    (ok_leaf (ok_return (show decode cX0_spell 16 = .ok (.return_, 1) by decide +kernel) rfl))))))
    (ok_node
    (ok_node
    (ok_node
    (ok_leaf (ok_iconst (show decode cX0_spell 17 = .ok (.iconst 1, 1) by decide +kernel) (by decide +kernel)))
    (ok_leaf (ok_istore (show decode cX0_spell 18 = .ok (.istore 6, 2) by decide +kernel))))
    (ok_node
    (ok_leaf (ok_iload (show decode cX0_spell 20 = .ok (.iload 6, 2) by decide +kernel)))
    (ok_leaf (ok_str0 (show decode cX0_spell 22 = .ok (.ldc 28, 2) by decide +kernel) rfl))))
    (ok_node
    (ok_node
    (ok_leaf (ok_txtLength (show decode cX0_spell 24 = .ok (.invokevirtual 30, 3) by decide +kernel) wd_16))
    (ok_leaf (ok_icmp_gt (show decode cX0_spell 27 = .ok (.if_icmp .gt 104, 3) by decide +kernel) (by decide +kernel))))
    (ok_node
    (ok_leaf (ok_iload (show decode cX0_spell 30 = .ok (.iload 4, 2) by decide +kernel)))
    (ok_node
    (ok_leaf (ok_iconst (show decode cX0_spell 32 = .ok (.iconst 1, 1) by decide +kernel) (by decide +kernel)))
    (ok_leaf (ok_isub (show decode cX0_spell 33 = .ok (.isub, 1) by decide +kernel))))))))
    (ok_node
    (ok_node
    (ok_node
    (ok_node
    (ok_leaf (ok_str0 (show decode cX0_spell 34 = .ok (.ldc 28, 2) by decide +kernel) rfl))
    (ok_leaf (ok_iload (show decode cX0_spell 36 = .ok (.iload 6, 2) by decide +kernel))))
    (ok_node
    (ok_leaf (ok_iconst (show decode cX0_spell 38 = .ok (.iconst 1, 1) by decide +kernel) (by decide +kernel)))
    (ok_leaf (ok_isub (show decode cX0_spell 39 = .ok (.isub, 1) by decide +kernel)))))
    (ok_node
    (ok_node
    (ok_leaf (ok_txtCharAt (show decode cX0_spell 40 = .ok (.invokevirtual 36, 3) by decide +kernel) wd_17))
    (ok_leaf (ok_callS (Mc := M_X5_parts) (show decode cX0_spell 43 = .ok (.invokestatic 51, 3) by decide +kernel) rfl (by decide) (by decide +kernel) wd_26 wd_27 wd_28 wd_29 ⟨by decide +kernel, by decide +kernel, by decide +kernel⟩ (by decide))))
    (ok_node
    (ok_leaf (ok_iadd (show decode cX0_spell 46 = .ok (.iadd, 1) by decide +kernel)))
    (ok_node
    (ok_leaf (ok_istore (show decode cX0_spell 47 = .ok (.istore 7, 2) by decide +kernel)))
    (ok_leaf (ok_iload (show decode cX0_spell 49 = .ok (.iload 6, 2) by decide +kernel)))))))
    (ok_node
    (ok_node
    (ok_node
    (ok_leaf (ok_iconst (show decode cX0_spell 51 = .ok (.iconst 2, 1) by decide +kernel) (by decide +kernel)))
    (ok_leaf (ok_icmp_gt (show decode cX0_spell 52 = .ok (.if_icmp .gt 13, 3) by decide +kernel) (by decide +kernel))))
    (ok_node
    (ok_leaf (ok_iload (show decode cX0_spell 55 = .ok (.iload 6, 2) by decide +kernel)))
    (ok_leaf (ok_iload_n (show decode cX0_spell 57 = .ok (.iload_n 1, 1) by decide +kernel) rfl))))
    (ok_node
    (ok_node
    (ok_leaf (ok_icmp_le (show decode cX0_spell 58 = .ok (.if_icmp .le 7, 3) by decide +kernel) (by decide +kernel)))
    (ok_leaf (ok_iconst (show decode cX0_spell 61 = .ok (.iconst 1, 1) by decide +kernel) (by decide +kernel))))
    (ok_node
    (ok_leaf (ok_goto (show decode cX0_spell 62 = .ok (.goto 4, 3) by decide +kernel) (by decide +kernel)))
    (ok_node
    (ok_leaf (ok_iconst (show decode cX0_spell 65 = .ok (.iconst 0, 1) by decide +kernel) (by decide +kernel)))
    (ok_leaf (ok_istore (show decode cX0_spell 66 = .ok (.istore 8, 2) by decide +kernel)))))))))
    (ok_node
    (ok_node
    (ok_node
    (ok_node
    (ok_node
    (ok_leaf (ok_iload (show decode cX0_spell 68 = .ok (.iload 7, 2) by decide +kernel)))
    (ok_leaf (ok_if_ne (show decode cX0_spell 70 = .ok (.ifCond .ne 13, 3) by decide +kernel) (by decide +kernel))))
    (ok_node
    (ok_leaf (ok_iload (show decode cX0_spell 73 = .ok (.iload 5, 2) by decide +kernel)))
    (ok_leaf (ok_iconst (show decode cX0_spell 75 = .ok (.iconst 1, 1) by decide +kernel) (by decide +kernel)))))
    (ok_node
    (ok_node
    (ok_leaf (ok_icmp_le (show decode cX0_spell 76 = .ok (.if_icmp .le 7, 3) by decide +kernel) (by decide +kernel)))
    (ok_leaf (ok_iconst (show decode cX0_spell 79 = .ok (.iconst 1, 1) by decide +kernel) (by decide +kernel))))
    (ok_node
    (ok_leaf (ok_goto (show decode cX0_spell 80 = .ok (.goto 4, 3) by decide +kernel) (by decide +kernel)))
    (ok_node
    (ok_leaf (ok_iconst (show decode cX0_spell 83 = .ok (.iconst 0, 1) by decide +kernel) (by decide +kernel)))
    (ok_leaf (ok_istore (show decode cX0_spell 84 = .ok (.istore 9, 2) by decide +kernel)))))))
    (ok_node
    (ok_node
    (ok_node
    (ok_leaf (ok_iload (show decode cX0_spell 86 = .ok (.iload 8, 2) by decide +kernel)))
    (ok_leaf (ok_if_ne (show decode cX0_spell 88 = .ok (.ifCond .ne 37, 3) by decide +kernel) (by decide +kernel))))
    (ok_node
    (ok_leaf (ok_iload (show decode cX0_spell 91 = .ok (.iload 9, 2) by decide +kernel)))
    (ok_leaf (ok_if_ne (show decode cX0_spell 93 = .ok (.ifCond .ne 32, 3) by decide +kernel) (by decide +kernel)))))
    (ok_node
    (ok_node
    (ok_leaf (ok_iload (show decode cX0_spell 96 = .ok (.iload 7, 2) by decide +kernel)))
    (ok_leaf (ok_iload (show decode cX0_spell 98 = .ok (.iload 5, 2) by decide +kernel))))
    (ok_node
    (ok_leaf (ok_icmp_ge (show decode cX0_spell 100 = .ok (.if_icmp .ge 25, 3) by decide +kernel) (by decide +kernel)))
    (ok_node
    (ok_leaf (ok_aload_n (show decode cX0_spell 103 = .ok (.aload_n 0, 1) by decide +kernel) rfl))
    (ok_leaf (ok_iload_n (show decode cX0_spell 104 = .ok (.iload_n 1, 1) by decide +kernel) rfl)))))))
    (ok_node
    (ok_node
    (ok_node
    (ok_node
    (ok_leaf (ok_iload_n (show decode cX0_spell 105 = .ok (.iload_n 2, 1) by decide +kernel) rfl))
    (ok_leaf (ok_iload (show decode cX0_spell 106 = .ok (.iload 6, 2) by decide +kernel))))
    (ok_node
    (ok_leaf (ok_iconst (show decode cX0_spell 108 = .ok (.iconst 3, 1) by decide +kernel) (by decide +kernel)))
    (ok_leaf (ok_iload_n (show decode cX0_spell 109 = .ok (.iload_n 3, 1) by decide +kernel) rfl))))
    (ok_node
    (ok_node
    (ok_leaf (ok_imul (show decode cX0_spell 110 = .ok (.imul, 1) by decide +kernel)))
    (ok_leaf (ok_ishl (show decode cX0_spell 111 = .ok (.ishl, 1) by decide +kernel))))
    (ok_node
    (ok_leaf (ok_ior (show decode cX0_spell 112 = .ok (.ior, 1) by decide +kernel)))
    (ok_node
    (ok_leaf (ok_iload_n (show decode cX0_spell 113 = .ok (.iload_n 3, 1) by decide +kernel) rfl))
    (ok_leaf (ok_iconst (show decode cX0_spell 114 = .ok (.iconst 1, 1) by decide +kernel) (by decide +kernel)))))))
    (ok_node
    (ok_node
    (ok_node
    (ok_leaf (ok_iadd (show decode cX0_spell 115 = .ok (.iadd, 1) by decide +kernel)))
    (ok_leaf (ok_iload (show decode cX0_spell 116 = .ok (.iload 7, 2) by decide +kernel))))
    (ok_node
    (ok_leaf (ok_iload (show decode cX0_spell 118 = .ok (.iload 5, 2) by decide +kernel)))
    (ok_leaf (ok_iconst (show decode cX0_spell 120 = .ok (.iconst 1, 1) by decide +kernel) (by decide +kernel)))))
    (ok_node
    (ok_node
    (ok_leaf (ok_isub (show decode cX0_spell 121 = .ok (.isub, 1) by decide +kernel)))
    (ok_leaf (ok_callV (C := RX0) (T := TX0) (N := 3) (Mc := M_X0_spell) (show decode cX0_spell 122 = .ok (.invokevirtual 20, 3) by decide +kernel) rfl (by decide) (by decide +kernel) rfl rfl wd_7 wd_8 wd_9 wd_10 wd_11 ⟨by decide +kernel, by decide +kernel, by decide +kernel⟩ (by decide))))
    (ok_node
    (ok_leaf (ok_iinc (show decode cX0_spell 125 = .ok (.iinc 6 1, 3) by decide +kernel) (by decide +kernel)))
    (ok_node
    (ok_leaf (ok_goto (show decode cX0_spell 128 = .ok (.goto (-108), 3) by decide +kernel) (by decide +kernel)))
    (ok_leaf (ok_return (show decode cX0_spell 131 = .ok (.return_, 1) by decide +kernel) rfl))))))))
set_option maxRecDepth 20000 in
set_option maxHeartbeats 4000000 in
theorem ok_X0_keep {sc : List Int32} : ∀ pc, pOk mtOf 189 M_X0_keep false sc pc (cd_X0_keep pc) := by
  unfold cd_X0_keep
  exact ok_node
    (ok_node
    (ok_node
    (ok_node
    (ok_leaf (ok_aload_n (show decode cX0_keep 0 = .ok (.aload_n 0, 1) by decide +kernel) rfl))
    (ok_leaf (ok_getfield (show decode cX0_keep 1 = .ok (.getfield 16, 3) by decide +kernel) (Or.inl (fd_X0 (by decide) wd_6 rfl rfl)))))
    (ok_node
    (ok_leaf (ok_sipush (show decode cX0_keep 4 = .ok (.sipush 1822, 3) by decide +kernel) (by decide +kernel)))
    (ok_leaf (ok_icmp_ge (show decode cX0_keep 7 = .ok (.if_icmp .ge 23, 3) by decide +kernel) (by decide +kernel)))))
    (ok_node
    (ok_node
    (ok_leaf (ok_aload_n (show decode cX0_keep 10 = .ok (.aload_n 0, 1) by decide +kernel) rfl))
    (ok_leaf (ok_getfield (show decode cX0_keep 11 = .ok (.getfield 9, 3) by decide +kernel) (Or.inr (fdF_X0 (by decide) wd_4 rfl rfl)))))
    (ok_node
    (ok_leaf (ok_aload_n (show decode cX0_keep 14 = .ok (.aload_n 0, 1) by decide +kernel) rfl))
    (ok_leaf (ok_getfield (show decode cX0_keep 15 = .ok (.getfield 16, 3) by decide +kernel) (Or.inl (fd_X0 (by decide) wd_6 rfl rfl)))))))
    (ok_node
    (ok_node
    (ok_node
    (ok_leaf (ok_iload_n (show decode cX0_keep 18 = .ok (.iload_n 1, 1) by decide +kernel) rfl))
    (ok_leaf (ok_iastore (show decode cX0_keep 19 = .ok (.iastore, 1) by decide +kernel))))
    (ok_node
    (ok_leaf (ok_aload_n (show decode cX0_keep 20 = .ok (.aload_n 0, 1) by decide +kernel) rfl))
    (ok_leaf (ok_dup (show decode cX0_keep 21 = .ok (.dup, 1) by decide +kernel)))))
    (ok_node
    (ok_node
    (ok_leaf (ok_getfield (show decode cX0_keep 22 = .ok (.getfield 16, 3) by decide +kernel) (Or.inl (fd_X0 (by decide) wd_6 rfl rfl))))
    (ok_leaf (ok_iconst (show decode cX0_keep 25 = .ok (.iconst 1, 1) by decide +kernel) (by decide +kernel))))
    (ok_node
    (ok_leaf (ok_iadd (show decode cX0_keep 26 = .ok (.iadd, 1) by decide +kernel)))
    (ok_node
    (ok_leaf (ok_putI (show decode cX0_keep 27 = .ok (.putfield 16, 3) by decide +kernel) (Or.inl (fd_X0 (by decide) wd_6 rfl rfl)) rfl))
    (ok_leaf (ok_return (show decode cX0_keep 30 = .ok (.return_, 1) by decide +kernel) rfl))))))
set_option maxRecDepth 20000 in
set_option maxHeartbeats 4000000 in
theorem ok_X1_init {sc : List Int32} : ∀ pc, pOk mtOf 189 M_X1_init false sc pc (cd_X1_init pc) := by
  unfold cd_X1_init
  exact ok_node
    (ok_node
    (ok_node
    (ok_node
    (ok_node
    (ok_leaf (ok_aload_n (show decode cX1_init 0 = .ok (.aload_n 0, 1) by decide +kernel) rfl))
    (ok_leaf (ok_obj (show decode cX1_init 1 = .ok (.invokespecial 1, 3) by decide +kernel) wd_30 wd_1 wd_2)))
    (ok_node
    (ok_leaf (ok_aload_n (show decode cX1_init 4 = .ok (.aload_n 0, 1) by decide +kernel) rfl))
    (ok_node
    (ok_leaf (ok_bipush (show decode cX1_init 5 = .ok (.bipush 10, 2) by decide +kernel) (by decide +kernel)))
    (ok_leaf (ok_newarray (show decode cX1_init 7 = .ok (.newarray .int, 2) by decide +kernel) wd_3)))))
    (ok_node
    (ok_node
    (ok_leaf (ok_putR (show decode cX1_init 9 = .ok (.putfield 9, 3) by decide +kernel) (Or.inr ⟨fdF_X1 (by decide) wd_31 rfl rfl, rfl, fun r hr => by cases hr; rfl⟩) (Or.inr ⟨_, rfl⟩)))
    (ok_leaf (ok_aload_n (show decode cX1_init 12 = .ok (.aload_n 0, 1) by decide +kernel) rfl)))
    (ok_node
    (ok_leaf (ok_bipush (show decode cX1_init 13 = .ok (.bipush 10, 2) by decide +kernel) (by decide +kernel)))
    (ok_node
    (ok_leaf (ok_newarray (show decode cX1_init 15 = .ok (.newarray .int, 2) by decide +kernel) wd_3))
    (ok_leaf (ok_putR (show decode cX1_init 17 = .ok (.putfield 15, 3) by decide +kernel) (Or.inr ⟨fdF_X1 (by decide) wd_32 rfl rfl, rfl, fun r hr => by cases hr; rfl⟩) (Or.inr ⟨_, rfl⟩)))))))
    (ok_node
    (ok_node
    (ok_node
    (ok_leaf (ok_aload_n (show decode cX1_init 20 = .ok (.aload_n 0, 1) by decide +kernel) rfl))
    (ok_leaf (ok_bipush (show decode cX1_init 21 = .ok (.bipush 10, 2) by decide +kernel) (by decide +kernel))))
    (ok_node
    (ok_leaf (ok_newarray (show decode cX1_init 23 = .ok (.newarray .int, 2) by decide +kernel) wd_3))
    (ok_node
    (ok_leaf (ok_putR (show decode cX1_init 25 = .ok (.putfield 18, 3) by decide +kernel) (Or.inr ⟨fdF_X1 (by decide) wd_33 rfl rfl, rfl, fun r hr => by cases hr; rfl⟩) (Or.inr ⟨_, rfl⟩)))
    (ok_leaf (ok_aload_n (show decode cX1_init 28 = .ok (.aload_n 0, 1) by decide +kernel) rfl)))))
    (ok_node
    (ok_node
    (ok_leaf (ok_bipush (show decode cX1_init 29 = .ok (.bipush 10, 2) by decide +kernel) (by decide +kernel)))
    (ok_node
    (ok_leaf (ok_newarray (show decode cX1_init 31 = .ok (.newarray .int, 2) by decide +kernel) wd_3))
    (ok_leaf (ok_putR (show decode cX1_init 33 = .ok (.putfield 21, 3) by decide +kernel) (Or.inr ⟨fdF_X1 (by decide) wd_34 rfl rfl, rfl, fun r hr => by cases hr; rfl⟩) (Or.inr ⟨_, rfl⟩)))))
    (ok_node
    (ok_leaf (ok_aload_n (show decode cX1_init 36 = .ok (.aload_n 0, 1) by decide +kernel) rfl))
    (ok_node
    (ok_leaf (ok_bipush (show decode cX1_init 37 = .ok (.bipush 97, 2) by decide +kernel) (by decide +kernel)))
    (ok_leaf (ok_callS (Mc := M_X5_kind) (show decode cX1_init 39 = .ok (.invokestatic 24, 3) by decide +kernel) rfl (by decide) (by decide +kernel) wd_35 wd_36 wd_28 wd_37 ⟨by decide +kernel, by decide +kernel, by decide +kernel⟩ (by decide))))))))
    (ok_node
    (ok_node
    (ok_node
    (ok_node
    (ok_leaf (ok_str1 (show decode cX1_init 42 = .ok (.ldc 28, 2) by decide +kernel) rfl))
    (ok_leaf (ok_callS (Mc := M_X0_wordFor) (show decode cX1_init 44 = .ok (.invokestatic 30, 3) by decide +kernel) rfl (by decide) (by decide +kernel) wd_38 wd_39 wd_10 wd_40 ⟨by decide +kernel, by decide +kernel, by decide +kernel⟩ (by decide))))
    (ok_node
    (ok_leaf (ok_callV (C := RX1) (T := TX1) (N := 4) (Mc := M_X1_take) (show decode cX1_init 47 = .ok (.invokevirtual 36, 3) by decide +kernel) rfl (by decide) (by decide +kernel) rfl rfl wd_41 wd_42 wd_43 wd_44 wd_45 ⟨by decide +kernel, by decide +kernel, by decide +kernel⟩ (by decide)))
    (ok_node
    (ok_leaf (ok_aload_n (show decode cX1_init 50 = .ok (.aload_n 0, 1) by decide +kernel) rfl))
    (ok_leaf (ok_bipush (show decode cX1_init 51 = .ok (.bipush 98, 2) by decide +kernel) (by decide +kernel))))))
    (ok_node
    (ok_node
    (ok_leaf (ok_callS (Mc := M_X5_kind) (show decode cX1_init 53 = .ok (.invokestatic 24, 3) by decide +kernel) rfl (by decide) (by decide +kernel) wd_35 wd_36 wd_28 wd_37 ⟨by decide +kernel, by decide +kernel, by decide +kernel⟩ (by decide)))
    (ok_node
    (ok_leaf (ok_str2 (show decode cX1_init 56 = .ok (.ldc 40, 2) by decide +kernel) rfl))
    (ok_leaf (ok_callS (Mc := M_X0_wordFor) (show decode cX1_init 58 = .ok (.invokestatic 30, 3) by decide +kernel) rfl (by decide) (by decide +kernel) wd_38 wd_39 wd_10 wd_40 ⟨by decide +kernel, by decide +kernel, by decide +kernel⟩ (by decide)))))
    (ok_node
    (ok_leaf (ok_callV (C := RX1) (T := TX1) (N := 4) (Mc := M_X1_take) (show decode cX1_init 61 = .ok (.invokevirtual 36, 3) by decide +kernel) rfl (by decide) (by decide +kernel) rfl rfl wd_41 wd_42 wd_43 wd_44 wd_45 ⟨by decide +kernel, by decide +kernel, by decide +kernel⟩ (by decide)))
    (ok_node
    (ok_leaf (ok_aload_n (show decode cX1_init 64 = .ok (.aload_n 0, 1) by decide +kernel) rfl))
    (ok_leaf (ok_bipush (show decode cX1_init 65 = .ok (.bipush 102, 2) by decide +kernel) (by decide +kernel)))))))
    (ok_node
    (ok_node
    (ok_node
    (ok_leaf (ok_callS (Mc := M_X5_kind) (show decode cX1_init 67 = .ok (.invokestatic 24, 3) by decide +kernel) rfl (by decide) (by decide +kernel) wd_35 wd_36 wd_28 wd_37 ⟨by decide +kernel, by decide +kernel, by decide +kernel⟩ (by decide)))
    (ok_leaf (ok_str3 (show decode cX1_init 70 = .ok (.ldc 42, 2) by decide +kernel) rfl)))
    (ok_node
    (ok_leaf (ok_callS (Mc := M_X0_wordFor) (show decode cX1_init 72 = .ok (.invokestatic 30, 3) by decide +kernel) rfl (by decide) (by decide +kernel) wd_38 wd_39 wd_10 wd_40 ⟨by decide +kernel, by decide +kernel, by decide +kernel⟩ (by decide)))
    (ok_node
    (ok_leaf (ok_callV (C := RX1) (T := TX1) (N := 4) (Mc := M_X1_take) (show decode cX1_init 75 = .ok (.invokevirtual 36, 3) by decide +kernel) rfl (by decide) (by decide +kernel) rfl rfl wd_41 wd_42 wd_43 wd_44 wd_45 ⟨by decide +kernel, by decide +kernel, by decide +kernel⟩ (by decide)))
    (ok_leaf (ok_aload_n (show decode cX1_init 78 = .ok (.aload_n 0, 1) by decide +kernel) rfl)))))
    (ok_node
    (ok_node
    (ok_leaf (ok_bipush (show decode cX1_init 79 = .ok (.bipush 103, 2) by decide +kernel) (by decide +kernel)))
    (ok_node
    (ok_leaf (ok_callS (Mc := M_X5_kind) (show decode cX1_init 81 = .ok (.invokestatic 24, 3) by decide +kernel) rfl (by decide) (by decide +kernel) wd_35 wd_36 wd_28 wd_37 ⟨by decide +kernel, by decide +kernel, by decide +kernel⟩ (by decide)))
    (ok_leaf (ok_str4 (show decode cX1_init 84 = .ok (.ldc 44, 2) by decide +kernel) rfl))))
    (ok_node
    (ok_leaf (ok_callS (Mc := M_X0_wordFor) (show decode cX1_init 86 = .ok (.invokestatic 30, 3) by decide +kernel) rfl (by decide) (by decide +kernel) wd_38 wd_39 wd_10 wd_40 ⟨by decide +kernel, by decide +kernel, by decide +kernel⟩ (by decide)))
    (ok_node
    (ok_leaf (ok_callV (C := RX1) (T := TX1) (N := 4) (Mc := M_X1_take) (show decode cX1_init 89 = .ok (.invokevirtual 36, 3) by decide +kernel) rfl (by decide) (by decide +kernel) rfl rfl wd_41 wd_42 wd_43 wd_44 wd_45 ⟨by decide +kernel, by decide +kernel, by decide +kernel⟩ (by decide)))
    (ok_leaf (ok_return (show decode cX1_init 92 = .ok (.return_, 1) by decide +kernel) rfl)))))))
set_option maxRecDepth 20000 in
set_option maxHeartbeats 4000000 in
theorem ok_X1_take {sc : List Int32} : ∀ pc, pOk mtOf 189 M_X1_take false sc pc (cd_X1_take pc) := by
  unfold cd_X1_take
  exact ok_node
    (ok_node
    (ok_node
    (ok_node
    (ok_node
    (ok_node
    (ok_leaf (ok_iload_n (show decode cX1_take 0 = .ok (.iload_n 1, 1) by decide +kernel) rfl))
    (ok_leaf (ok_if_lt (show decode cX1_take 1 = .ok (.ifCond .lt 9, 3) by decide +kernel) (by decide +kernel))))
    (ok_node
    (ok_leaf (ok_iload_n (show decode cX1_take 4 = .ok (.iload_n 1, 1) by decide +kernel) rfl))
    (ok_leaf (ok_bipush (show decode cX1_take 5 = .ok (.bipush 10, 2) by decide +kernel) (by decide +kernel)))))
    (ok_node
    (ok_node
    (ok_leaf (ok_icmp_lt (show decode cX1_take 7 = .ok (.if_icmp .lt 4, 3) by decide +kernel) (by decide +kernel)))
    (ok_leaf (ok_return (show decode cX1_take 10 = .ok (.return_, 1) by decide +kernel) rfl)))
    (ok_node
    (ok_leaf (ok_aload_n (show decode cX1_take 11 = .ok (.aload_n 0, 1) by decide +kernel) rfl))
    (ok_node
    (ok_leaf (ok_getfield (show decode cX1_take 12 = .ok (.getfield 9, 3) by decide +kernel) (Or.inr (fdF_X1 (by decide) wd_31 rfl rfl))))
    (ok_leaf (ok_iload_n (show decode cX1_take 15 = .ok (.iload_n 1, 1) by decide +kernel) rfl))))))
    (ok_node
    (ok_node
    (ok_node
    (ok_leaf (ok_iload_n (show decode cX1_take 16 = .ok (.iload_n 2, 1) by decide +kernel) rfl))
    (ok_leaf (ok_iastore (show decode cX1_take 17 = .ok (.iastore, 1) by decide +kernel))))
    (ok_node
    (ok_leaf (ok_aload_n (show decode cX1_take 18 = .ok (.aload_n 0, 1) by decide +kernel) rfl))
    (ok_leaf (ok_getfield (show decode cX1_take 19 = .ok (.getfield 15, 3) by decide +kernel) (Or.inr (fdF_X1 (by decide) wd_32 rfl rfl))))))
    (ok_node
    (ok_node
    (ok_leaf (ok_iload_n (show decode cX1_take 22 = .ok (.iload_n 1, 1) by decide +kernel) rfl))
    (ok_leaf (ok_iconst (show decode cX1_take 23 = .ok (.iconst 0, 1) by decide +kernel) (by decide +kernel))))
    (ok_node
    (ok_leaf (ok_iastore (show decode cX1_take 24 = .ok (.iastore, 1) by decide +kernel)))
    (ok_node
    (ok_leaf (ok_aload_n (show decode cX1_take 25 = .ok (.aload_n 0, 1) by decide +kernel) rfl))
    (ok_leaf (ok_getfield (show decode cX1_take 26 = .ok (.getfield 18, 3) by decide +kernel) (Or.inr (fdF_X1 (by decide) wd_33 rfl rfl)))))))))
    (ok_node
    (ok_node
    (ok_node
    (ok_node
    (ok_leaf (ok_iload_n (show decode cX1_take 29 = .ok (.iload_n 1, 1) by decide +kernel) rfl))
    (ok_leaf (ok_iconst (show decode cX1_take 30 = .ok (.iconst 0, 1) by decide +kernel) (by decide +kernel))))
    (ok_node
    (ok_leaf (ok_iastore (show decode cX1_take 31 = .ok (.iastore, 1) by decide +kernel)))
    (ok_leaf (ok_aload_n (show decode cX1_take 32 = .ok (.aload_n 0, 1) by decide +kernel) rfl))))
    (ok_node
    (ok_node
    (ok_leaf (ok_getfield (show decode cX1_take 33 = .ok (.getfield 21, 3) by decide +kernel) (Or.inr (fdF_X1 (by decide) wd_34 rfl rfl))))
    (ok_leaf (ok_iload_n (show decode cX1_take 36 = .ok (.iload_n 1, 1) by decide +kernel) rfl)))
    (ok_node
    (ok_leaf (ok_iconst (show decode cX1_take 37 = .ok (.iconst 0, 1) by decide +kernel) (by decide +kernel)))
    (ok_node
    (ok_leaf (ok_iastore (show decode cX1_take 38 = .ok (.iastore, 1) by decide +kernel)))
    (ok_leaf (ok_iconst (show decode cX1_take 39 = .ok (.iconst 0, 1) by decide +kernel) (by decide +kernel)))))))
    (ok_node
    (ok_node
    (ok_node
    (ok_leaf (ok_istore_n (show decode cX1_take 40 = .ok (.istore_n 3, 1) by decide +kernel) rfl))
    (ok_leaf (ok_iload_n (show decode cX1_take 41 = .ok (.iload_n 3, 1) by decide +kernel) rfl)))
    (ok_node
    (ok_leaf (ok_bipush (show decode cX1_take 42 = .ok (.bipush 6, 2) by decide +kernel) (by decide +kernel)))
    (ok_leaf (ok_icmp_ge (show decode cX1_take 44 = .ok (.if_icmp .ge 71, 3) by decide +kernel) (by decide +kernel)))))
    (ok_node
    (ok_node
    (ok_leaf (ok_iload_n (show decode cX1_take 47 = .ok (.iload_n 2, 1) by decide +kernel) rfl))
    (ok_leaf (ok_iload_n (show decode cX1_take 48 = .ok (.iload_n 3, 1) by decide +kernel) rfl)))
    (ok_node
    (ok_leaf (ok_callS (Mc := M_X0_letterIn) (show decode cX1_take 49 = .ok (.invokestatic 46, 3) by decide +kernel) rfl (by decide) (by decide +kernel) wd_46 wd_19 wd_10 wd_20 ⟨by decide +kernel, by decide +kernel, by decide +kernel⟩ (by decide)))
    (ok_node
    (ok_leaf (ok_istore (show decode cX1_take 52 = .ok (.istore 4, 2) by decide +kernel)))
    (ok_leaf (ok_iload (show decode cX1_take 54 = .ok (.iload 4, 2) by decide +kernel)))))))))
    (ok_node
    (ok_node
    (ok_node
    (ok_node
    (ok_node
    (ok_leaf (ok_bipush (show decode cX1_take 56 = .ok (.bipush 49, 2) by decide +kernel) (by decide +kernel)))
    (ok_leaf (ok_icmp_ne (show decode cX1_take 58 = .ok (.if_icmp .ne 16, 3) by decide +kernel) (by decide +kernel))))
    (ok_node
    (ok_leaf (ok_aload_n (show decode cX1_take 61 = .ok (.aload_n 0, 1) by decide +kernel) rfl))
    (ok_leaf (ok_getfield (show decode cX1_take 62 = .ok (.getfield 18, 3) by decide +kernel) (Or.inr (fdF_X1 (by decide) wd_33 rfl rfl))))))
    (ok_node
    (ok_node
    (ok_leaf (ok_iload_n (show decode cX1_take 65 = .ok (.iload_n 1, 1) by decide +kernel) rfl))
    (ok_leaf (ok_dup2 (show decode cX1_take 66 = .ok (.dup2, 1) by decide +kernel))))
    (ok_node
    (ok_leaf (ok_iaload (show decode cX1_take 67 = .ok (.iaload, 1) by decide +kernel)))
    (ok_node
    (ok_leaf (ok_iconst (show decode cX1_take 68 = .ok (.iconst 1, 1) by decide +kernel) (by decide +kernel)))
    (ok_leaf (ok_iadd (show decode cX1_take 69 = .ok (.iadd, 1) by decide +kernel)))))))
    (ok_node
    (ok_node
    (ok_node
    (ok_leaf (ok_iastore (show decode cX1_take 70 = .ok (.iastore, 1) by decide +kernel)))
    (ok_leaf (ok_goto (show decode cX1_take 71 = .ok (.goto 38, 3) by decide +kernel) (by decide +kernel))))
    (ok_node
    (ok_leaf (ok_iload (show decode cX1_take 74 = .ok (.iload 4, 2) by decide +kernel)))
    (ok_leaf (ok_bipush (show decode cX1_take 76 = .ok (.bipush 50, 2) by decide +kernel) (by decide +kernel)))))
    (ok_node
    (ok_node
    (ok_leaf (ok_icmp_ne (show decode cX1_take 78 = .ok (.if_icmp .ne 16, 3) by decide +kernel) (by decide +kernel)))
    (ok_leaf (ok_aload_n (show decode cX1_take 81 = .ok (.aload_n 0, 1) by decide +kernel) rfl)))
    (ok_node
    (ok_leaf (ok_getfield (show decode cX1_take 82 = .ok (.getfield 21, 3) by decide +kernel) (Or.inr (fdF_X1 (by decide) wd_34 rfl rfl))))
    (ok_node
    (ok_leaf (ok_iload_n (show decode cX1_take 85 = .ok (.iload_n 1, 1) by decide +kernel) rfl))
    (ok_leaf (ok_dup2 (show decode cX1_take 86 = .ok (.dup2, 1) by decide +kernel))))))))
    (ok_node
    (ok_node
    (ok_node
    (ok_node
    (ok_leaf (ok_iaload (show decode cX1_take 87 = .ok (.iaload, 1) by decide +kernel)))
    (ok_leaf (ok_iconst (show decode cX1_take 88 = .ok (.iconst 1, 1) by decide +kernel) (by decide +kernel))))
    (ok_node
    (ok_leaf (ok_iadd (show decode cX1_take 89 = .ok (.iadd, 1) by decide +kernel)))
    (ok_leaf (ok_iastore (show decode cX1_take 90 = .ok (.iastore, 1) by decide +kernel)))))
    (ok_node
    (ok_node
    (ok_leaf (ok_goto (show decode cX1_take 91 = .ok (.goto 18, 3) by decide +kernel) (by decide +kernel)))
    (ok_leaf (ok_iload (show decode cX1_take 94 = .ok (.iload 4, 2) by decide +kernel))))
    (ok_node
    (ok_leaf (ok_if_eq (show decode cX1_take 96 = .ok (.ifCond .eq 13, 3) by decide +kernel) (by decide +kernel)))
    (ok_node
    (ok_leaf (ok_aload_n (show decode cX1_take 99 = .ok (.aload_n 0, 1) by decide +kernel) rfl))
    (ok_leaf (ok_getfield (show decode cX1_take 100 = .ok (.getfield 15, 3) by decide +kernel) (Or.inr (fdF_X1 (by decide) wd_32 rfl rfl))))))))
    (ok_node
    (ok_node
    (ok_node
    (ok_leaf (ok_iload_n (show decode cX1_take 103 = .ok (.iload_n 1, 1) by decide +kernel) rfl))
    (ok_leaf (ok_dup2 (show decode cX1_take 104 = .ok (.dup2, 1) by decide +kernel))))
    (ok_node
    (ok_leaf (ok_iaload (show decode cX1_take 105 = .ok (.iaload, 1) by decide +kernel)))
    (ok_leaf (ok_iconst (show decode cX1_take 106 = .ok (.iconst 1, 1) by decide +kernel) (by decide +kernel)))))
    (ok_node
    (ok_node
    (ok_leaf (ok_iadd (show decode cX1_take 107 = .ok (.iadd, 1) by decide +kernel)))
    (ok_leaf (ok_iastore (show decode cX1_take 108 = .ok (.iastore, 1) by decide +kernel))))
    (ok_node
    (ok_leaf (ok_iinc (show decode cX1_take 109 = .ok (.iinc 3 1, 3) by decide +kernel) (by decide +kernel)))
    (ok_node
    (ok_leaf (ok_goto (show decode cX1_take 112 = .ok (.goto (-71), 3) by decide +kernel) (by decide +kernel)))
    (ok_leaf (ok_return (show decode cX1_take 115 = .ok (.return_, 1) by decide +kernel) rfl))))))))
set_option maxRecDepth 20000 in
set_option maxHeartbeats 4000000 in
theorem ok_X1_word {sc : List Int32} : ∀ pc, pOk mtOf 189 M_X1_word false sc pc (cd_X1_word pc) := by
  unfold cd_X1_word
  exact ok_node
    (ok_node
    (ok_node
    (ok_leaf (ok_iload_n (show decode cX1_word 0 = .ok (.iload_n 1, 1) by decide +kernel) rfl))
    (ok_node
    (ok_leaf (ok_if_lt (show decode cX1_word 1 = .ok (.ifCond .lt 18, 3) by decide +kernel) (by decide +kernel)))
    (ok_leaf (ok_iload_n (show decode cX1_word 4 = .ok (.iload_n 1, 1) by decide +kernel) rfl))))
    (ok_node
    (ok_leaf (ok_bipush (show decode cX1_word 5 = .ok (.bipush 10, 2) by decide +kernel) (by decide +kernel)))
    (ok_node
    (ok_leaf (ok_icmp_ge (show decode cX1_word 7 = .ok (.if_icmp .ge 12, 3) by decide +kernel) (by decide +kernel)))
    (ok_leaf (ok_aload_n (show decode cX1_word 10 = .ok (.aload_n 0, 1) by decide +kernel) rfl)))))
    (ok_node
    (ok_node
    (ok_leaf (ok_getfield (show decode cX1_word 11 = .ok (.getfield 9, 3) by decide +kernel) (Or.inr (fdF_X1 (by decide) wd_31 rfl rfl))))
    (ok_node
    (ok_leaf (ok_iload_n (show decode cX1_word 14 = .ok (.iload_n 1, 1) by decide +kernel) rfl))
    (ok_leaf (ok_iaload (show decode cX1_word 15 = .ok (.iaload, 1) by decide +kernel)))))
    (ok_node
    (ok_leaf (ok_goto (show decode cX1_word 16 = .ok (.goto 4, 3) by decide +kernel) (by decide +kernel)))
    (ok_node
    (ok_leaf (ok_iconst (show decode cX1_word 19 = .ok (.iconst 0, 1) by decide +kernel) (by decide +kernel)))
    (ok_leaf (ok_ireturn (show decode cX1_word 20 = .ok (.ireturn, 1) by decide +kernel) rfl)))))
set_option maxRecDepth 20000 in
set_option maxHeartbeats 4000000 in
theorem ok_X1_nodesWith {sc : List Int32} : ∀ pc, pOk mtOf 189 M_X1_nodesWith false sc pc (cd_X1_nodesWith pc) := by
  unfold cd_X1_nodesWith
  exact ok_node
    (ok_node
    (ok_node
    (ok_node
    (ok_leaf (ok_iload_n (show decode cX1_nodesWith 0 = .ok (.iload_n 1, 1) by decide +kernel) rfl))
    (ok_node
    (ok_leaf (ok_if_lt (show decode cX1_nodesWith 1 = .ok (.ifCond .lt 9, 3) by decide +kernel) (by decide +kernel)))
    (ok_leaf (ok_iload_n (show decode cX1_nodesWith 4 = .ok (.iload_n 1, 1) by decide +kernel) rfl))))
    (ok_node
    (ok_leaf (ok_bipush (show decode cX1_nodesWith 5 = .ok (.bipush 10, 2) by decide +kernel) (by decide +kernel)))
    (ok_node
    (ok_leaf (ok_icmp_lt (show decode cX1_nodesWith 7 = .ok (.if_icmp .lt 5, 3) by decide +kernel) (by decide +kernel)))
    (ok_leaf (ok_iconst (show decode cX1_nodesWith 10 = .ok (.iconst 0, 1) by decide +kernel) (by decide +kernel))))))
    (ok_node
    (ok_node
    (ok_leaf (ok_ireturn (show decode cX1_nodesWith 11 = .ok (.ireturn, 1) by decide +kernel) rfl))
    (ok_node
    (ok_leaf (ok_aload_n (show decode cX1_nodesWith 12 = .ok (.aload_n 0, 1) by decide +kernel) rfl))
    (ok_leaf (ok_getfield (show decode cX1_nodesWith 13 = .ok (.getfield 15, 3) by decide +kernel) (Or.inr (fdF_X1 (by decide) wd_32 rfl rfl))))))
    (ok_node
    (ok_node
    (ok_leaf (ok_iload_n (show decode cX1_nodesWith 16 = .ok (.iload_n 1, 1) by decide +kernel) rfl))
    (ok_leaf (ok_iaload (show decode cX1_nodesWith 17 = .ok (.iaload, 1) by decide +kernel))))
    (ok_node
    (ok_leaf (ok_aload_n (show decode cX1_nodesWith 18 = .ok (.aload_n 0, 1) by decide +kernel) rfl))
    (ok_leaf (ok_getfield (show decode cX1_nodesWith 19 = .ok (.getfield 18, 3) by decide +kernel) (Or.inr (fdF_X1 (by decide) wd_33 rfl rfl))))))))
    (ok_node
    (ok_node
    (ok_node
    (ok_leaf (ok_iload_n (show decode cX1_nodesWith 22 = .ok (.iload_n 1, 1) by decide +kernel) rfl))
    (ok_node
    (ok_leaf (ok_iaload (show decode cX1_nodesWith 23 = .ok (.iaload, 1) by decide +kernel)))
    (ok_leaf (ok_iload_n (show decode cX1_nodesWith 24 = .ok (.iload_n 2, 1) by decide +kernel) rfl))))
    (ok_node
    (ok_leaf (ok_imul (show decode cX1_nodesWith 25 = .ok (.imul, 1) by decide +kernel)))
    (ok_node
    (ok_leaf (ok_iadd (show decode cX1_nodesWith 26 = .ok (.iadd, 1) by decide +kernel)))
    (ok_leaf (ok_aload_n (show decode cX1_nodesWith 27 = .ok (.aload_n 0, 1) by decide +kernel) rfl)))))
    (ok_node
    (ok_node
    (ok_leaf (ok_getfield (show decode cX1_nodesWith 28 = .ok (.getfield 21, 3) by decide +kernel) (Or.inr (fdF_X1 (by decide) wd_34 rfl rfl))))
    (ok_node
    (ok_leaf (ok_iload_n (show decode cX1_nodesWith 31 = .ok (.iload_n 1, 1) by decide +kernel) rfl))
    (ok_leaf (ok_iaload (show decode cX1_nodesWith 32 = .ok (.iaload, 1) by decide +kernel)))))
    (ok_node
    (ok_node
    (ok_leaf (ok_iload_n (show decode cX1_nodesWith 33 = .ok (.iload_n 3, 1) by decide +kernel) rfl))
    (ok_leaf (ok_imul (show decode cX1_nodesWith 34 = .ok (.imul, 1) by decide +kernel))))
    (ok_node
    (ok_leaf (ok_iadd (show decode cX1_nodesWith 35 = .ok (.iadd, 1) by decide +kernel)))
    (ok_leaf (ok_ireturn (show decode cX1_nodesWith 36 = .ok (.ireturn, 1) by decide +kernel) rfl))))))
set_option maxRecDepth 20000 in
set_option maxHeartbeats 4000000 in
theorem ok_X2_init {sc : List Int32} : ∀ pc, pOk mtOf 189 M_X2_init false sc pc (cd_X2_init pc) := by
  unfold cd_X2_init
  exact ok_node
    (ok_node
    (ok_node
    (ok_node
    (ok_leaf (ok_aload_n (show decode cX2_init 0 = .ok (.aload_n 0, 1) by decide +kernel) rfl))
    (ok_leaf (ok_obj (show decode cX2_init 1 = .ok (.invokespecial 1, 3) by decide +kernel) wd_47 wd_1 wd_2)))
    (ok_node
    (ok_leaf (ok_aload_n (show decode cX2_init 4 = .ok (.aload_n 0, 1) by decide +kernel) rfl))
    (ok_node
    (ok_leaf (ok_bipush (show decode cX2_init 5 = .ok (.bipush 40, 2) by decide +kernel) (by decide +kernel)))
    (ok_leaf (ok_newarray (show decode cX2_init 7 = .ok (.newarray .int, 2) by decide +kernel) wd_3)))))
    (ok_node
    (ok_node
    (ok_leaf (ok_putR (show decode cX2_init 9 = .ok (.putfield 9, 3) by decide +kernel) (Or.inr ⟨fdF_X2 (by decide) wd_48 rfl rfl, rfl, fun r hr => by cases hr; rfl⟩) (Or.inr ⟨_, rfl⟩)))
    (ok_node
    (ok_leaf (ok_aload_n (show decode cX2_init 12 = .ok (.aload_n 0, 1) by decide +kernel) rfl))
    (ok_leaf (ok_bipush (show decode cX2_init 13 = .ok (.bipush 9, 2) by decide +kernel) (by decide +kernel)))))
    (ok_node
    (ok_leaf (ok_newarray (show decode cX2_init 15 = .ok (.newarray .int, 2) by decide +kernel) wd_3))
    (ok_node
    (ok_leaf (ok_putR (show decode cX2_init 17 = .ok (.putfield 13, 3) by decide +kernel) (Or.inr ⟨fdF_X2 (by decide) wd_49 rfl rfl, rfl, fun r hr => by cases hr; rfl⟩) (Or.inr ⟨_, rfl⟩)))
    (ok_leaf (ok_aload_n (show decode cX2_init 20 = .ok (.aload_n 0, 1) by decide +kernel) rfl))))))
    (ok_node
    (ok_node
    (ok_node
    (ok_leaf (ok_bipush (show decode cX2_init 21 = .ok (.bipush 40, 2) by decide +kernel) (by decide +kernel)))
    (ok_node
    (ok_leaf (ok_newarray (show decode cX2_init 23 = .ok (.newarray .int, 2) by decide +kernel) wd_3))
    (ok_leaf (ok_putR (show decode cX2_init 25 = .ok (.putfield 16, 3) by decide +kernel) (Or.inr ⟨fdF_X2 (by decide) wd_50 rfl rfl, rfl, fun r hr => by cases hr; rfl⟩) (Or.inr ⟨_, rfl⟩)))))
    (ok_node
    (ok_leaf (ok_aload_n (show decode cX2_init 28 = .ok (.aload_n 0, 1) by decide +kernel) rfl))
    (ok_node
    (ok_leaf (ok_bipush (show decode cX2_init 29 = .ok (.bipush 40, 2) by decide +kernel) (by decide +kernel)))
    (ok_leaf (ok_newarray (show decode cX2_init 31 = .ok (.newarray .int, 2) by decide +kernel) wd_3)))))
    (ok_node
    (ok_node
    (ok_leaf (ok_putR (show decode cX2_init 33 = .ok (.putfield 19, 3) by decide +kernel) (Or.inr ⟨fdF_X2 (by decide) wd_51 rfl rfl, rfl, fun r hr => by cases hr; rfl⟩) (Or.inr ⟨_, rfl⟩)))
    (ok_node
    (ok_leaf (ok_aload_n (show decode cX2_init 36 = .ok (.aload_n 0, 1) by decide +kernel) rfl))
    (ok_leaf (ok_bipush (show decode cX2_init 37 = .ok (.bipush 40, 2) by decide +kernel) (by decide +kernel)))))
    (ok_node
    (ok_leaf (ok_newarray (show decode cX2_init 39 = .ok (.newarray .int, 2) by decide +kernel) wd_3))
    (ok_node
    (ok_leaf (ok_putR (show decode cX2_init 41 = .ok (.putfield 22, 3) by decide +kernel) (Or.inr ⟨fdF_X2 (by decide) wd_52 rfl rfl, rfl, fun r hr => by cases hr; rfl⟩) (Or.inr ⟨_, rfl⟩)))
    (ok_leaf (ok_return (show decode cX2_init 44 = .ok (.return_, 1) by decide +kernel) rfl))))))
set_option maxRecDepth 20000 in
set_option maxHeartbeats 4000000 in
theorem ok_X2_erase {sc : List Int32} : ∀ pc, pOk mtOf 189 M_X2_erase false sc pc (cd_X2_erase pc) := by
  unfold cd_X2_erase
  exact ok_node
    (ok_node
    (ok_leaf (ok_aload_n (show decode cX2_erase 0 = .ok (.aload_n 0, 1) by decide +kernel) rfl))
    (ok_node
    (ok_leaf (ok_iconst (show decode cX2_erase 1 = .ok (.iconst 0, 1) by decide +kernel) (by decide +kernel)))
    (ok_leaf (ok_putI (show decode cX2_erase 2 = .ok (.putfield 25, 3) by decide +kernel) (Or.inl (fd_X2 (by decide) wd_53 rfl rfl)) rfl))))
    (ok_node
    (ok_node
    (ok_leaf (ok_aload_n (show decode cX2_erase 5 = .ok (.aload_n 0, 1) by decide +kernel) rfl))
    (ok_leaf (ok_iconst (show decode cX2_erase 6 = .ok (.iconst 0, 1) by decide +kernel) (by decide +kernel))))
    (ok_node
    (ok_leaf (ok_putI (show decode cX2_erase 7 = .ok (.putfield 29, 3) by decide +kernel) (Or.inl (fd_X2 (by decide) wd_54 rfl rfl)) rfl))
    (ok_leaf (ok_return (show decode cX2_erase 10 = .ok (.return_, 1) by decide +kernel) rfl))))
set_option maxRecDepth 20000 in
set_option maxHeartbeats 4000000 in
theorem ok_X2_append {sc : List Int32} : ∀ pc, pOk mtOf 189 M_X2_append false sc pc (cd_X2_append pc) := by
  unfold cd_X2_append
  exact ok_node
    (ok_node
    (ok_node
    (ok_node
    (ok_leaf (ok_aload_n (show decode cX2_append 0 = .ok (.aload_n 0, 1) by decide +kernel) rfl))
    (ok_node
    (ok_leaf (ok_getfield (show decode cX2_append 1 = .ok (.getfield 25, 3) by decide +kernel) (Or.inl (fd_X2 (by decide) wd_53 rfl rfl))))
    (ok_leaf (ok_bipush (show decode cX2_append 4 = .ok (.bipush 8, 2) by decide +kernel) (by decide +kernel)))))
    (ok_node
    (ok_leaf (ok_icmp_ge (show decode cX2_append 6 = .ok (.if_icmp .ge 12, 3) by decide +kernel) (by decide +kernel)))
    (ok_node
    (ok_leaf (ok_aload_n (show decode cX2_append 9 = .ok (.aload_n 0, 1) by decide +kernel) rfl))
    (ok_leaf (ok_getfield (show decode cX2_append 10 = .ok (.getfield 29, 3) by decide +kernel) (Or.inl (fd_X2 (by decide) wd_54 rfl rfl)))))))
    (ok_node
    (ok_node
    (ok_leaf (ok_bipush (show decode cX2_append 13 = .ok (.bipush 40, 2) by decide +kernel) (by decide +kernel)))
    (ok_node
    (ok_leaf (ok_icmp_lt (show decode cX2_append 15 = .ok (.if_icmp .lt 5, 3) by decide +kernel) (by decide +kernel)))
    (ok_leaf (ok_iconst (show decode cX2_append 18 = .ok (.iconst 0, 1) by decide +kernel) (by decide +kernel)))))
    (ok_node
    (ok_leaf (ok_zreturn (show decode cX2_append 19 = .ok (.ireturn, 1) by decide +kernel) rfl))
    (ok_node
    (ok_leaf (ok_aload_n (show decode cX2_append 20 = .ok (.aload_n 0, 1) by decide +kernel) rfl))
    (ok_leaf (ok_getfield (show decode cX2_append 21 = .ok (.getfield 9, 3) by decide +kernel) (Or.inr (fdF_X2 (by decide) wd_48 rfl rfl))))))))
    (ok_node
    (ok_node
    (ok_node
    (ok_leaf (ok_aload_n (show decode cX2_append 24 = .ok (.aload_n 0, 1) by decide +kernel) rfl))
    (ok_node
    (ok_leaf (ok_getfield (show decode cX2_append 25 = .ok (.getfield 29, 3) by decide +kernel) (Or.inl (fd_X2 (by decide) wd_54 rfl rfl))))
    (ok_leaf (ok_iload_n (show decode cX2_append 28 = .ok (.iload_n 1, 1) by decide +kernel) rfl))))
    (ok_node
    (ok_leaf (ok_iastore (show decode cX2_append 29 = .ok (.iastore, 1) by decide +kernel)))
    (ok_node
    (ok_leaf (ok_aload_n (show decode cX2_append 30 = .ok (.aload_n 0, 1) by decide +kernel) rfl))
    (ok_leaf (ok_dup (show decode cX2_append 31 = .ok (.dup, 1) by decide +kernel))))))
    (ok_node
    (ok_node
    (ok_leaf (ok_getfield (show decode cX2_append 32 = .ok (.getfield 29, 3) by decide +kernel) (Or.inl (fd_X2 (by decide) wd_54 rfl rfl))))
    (ok_node
    (ok_leaf (ok_iconst (show decode cX2_append 35 = .ok (.iconst 1, 1) by decide +kernel) (by decide +kernel)))
    (ok_leaf (ok_iadd (show decode cX2_append 36 = .ok (.iadd, 1) by decide +kernel)))))
    (ok_node
    (ok_leaf (ok_putI (show decode cX2_append 37 = .ok (.putfield 29, 3) by decide +kernel) (Or.inl (fd_X2 (by decide) wd_54 rfl rfl)) rfl))
    (ok_node
    (ok_leaf (ok_iconst (show decode cX2_append 40 = .ok (.iconst 1, 1) by decide +kernel) (by decide +kernel)))
    (ok_leaf (ok_zreturn (show decode cX2_append 41 = .ok (.ireturn, 1) by decide +kernel) rfl))))))
set_option maxRecDepth 20000 in
set_option maxHeartbeats 4000000 in
theorem ok_X2_endSide {sc : List Int32} : ∀ pc, pOk mtOf 189 M_X2_endSide false sc pc (cd_X2_endSide pc) := by
  unfold cd_X2_endSide
  exact ok_node
    (ok_node
    (ok_node
    (ok_node
    (ok_leaf (ok_aload_n (show decode cX2_endSide 0 = .ok (.aload_n 0, 1) by decide +kernel) rfl))
    (ok_leaf (ok_getfield (show decode cX2_endSide 1 = .ok (.getfield 25, 3) by decide +kernel) (Or.inl (fd_X2 (by decide) wd_53 rfl rfl)))))
    (ok_node
    (ok_leaf (ok_bipush (show decode cX2_endSide 4 = .ok (.bipush 8, 2) by decide +kernel) (by decide +kernel)))
    (ok_leaf (ok_icmp_ge (show decode cX2_endSide 6 = .ok (.if_icmp .ge 26, 3) by decide +kernel) (by decide +kernel)))))
    (ok_node
    (ok_node
    (ok_leaf (ok_aload_n (show decode cX2_endSide 9 = .ok (.aload_n 0, 1) by decide +kernel) rfl))
    (ok_leaf (ok_dup (show decode cX2_endSide 10 = .ok (.dup, 1) by decide +kernel))))
    (ok_node
    (ok_leaf (ok_getfield (show decode cX2_endSide 11 = .ok (.getfield 25, 3) by decide +kernel) (Or.inl (fd_X2 (by decide) wd_53 rfl rfl))))
    (ok_node
    (ok_leaf (ok_iconst (show decode cX2_endSide 14 = .ok (.iconst 1, 1) by decide +kernel) (by decide +kernel)))
    (ok_leaf (ok_iadd (show decode cX2_endSide 15 = .ok (.iadd, 1) by decide +kernel)))))))
    (ok_node
    (ok_node
    (ok_node
    (ok_leaf (ok_putI (show decode cX2_endSide 16 = .ok (.putfield 25, 3) by decide +kernel) (Or.inl (fd_X2 (by decide) wd_53 rfl rfl)) rfl))
    (ok_leaf (ok_aload_n (show decode cX2_endSide 19 = .ok (.aload_n 0, 1) by decide +kernel) rfl)))
    (ok_node
    (ok_leaf (ok_getfield (show decode cX2_endSide 20 = .ok (.getfield 13, 3) by decide +kernel) (Or.inr (fdF_X2 (by decide) wd_49 rfl rfl))))
    (ok_leaf (ok_aload_n (show decode cX2_endSide 23 = .ok (.aload_n 0, 1) by decide +kernel) rfl))))
    (ok_node
    (ok_node
    (ok_leaf (ok_getfield (show decode cX2_endSide 24 = .ok (.getfield 25, 3) by decide +kernel) (Or.inl (fd_X2 (by decide) wd_53 rfl rfl))))
    (ok_leaf (ok_aload_n (show decode cX2_endSide 27 = .ok (.aload_n 0, 1) by decide +kernel) rfl)))
    (ok_node
    (ok_leaf (ok_getfield (show decode cX2_endSide 28 = .ok (.getfield 29, 3) by decide +kernel) (Or.inl (fd_X2 (by decide) wd_54 rfl rfl))))
    (ok_node
    (ok_leaf (ok_iastore (show decode cX2_endSide 31 = .ok (.iastore, 1) by decide +kernel)))
    (ok_leaf (ok_return (show decode cX2_endSide 32 = .ok (.return_, 1) by decide +kernel) rfl))))))
set_option maxRecDepth 20000 in
set_option maxHeartbeats 4000000 in
theorem ok_X2_awaitsLeft {sc : List Int32} : ∀ pc, pOk mtOf 189 M_X2_awaitsLeft false sc pc (cd_X2_awaitsLeft pc) := by
  unfold cd_X2_awaitsLeft
  exact ok_node
    (ok_node
    (ok_node
    (ok_leaf (ok_aload_n (show decode cX2_awaitsLeft 0 = .ok (.aload_n 0, 1) by decide +kernel) rfl))
    (ok_leaf (ok_getfield (show decode cX2_awaitsLeft 1 = .ok (.getfield 25, 3) by decide +kernel) (Or.inl (fd_X2 (by decide) wd_53 rfl rfl)))))
    (ok_node
    (ok_leaf (ok_iconst (show decode cX2_awaitsLeft 4 = .ok (.iconst 2, 1) by decide +kernel) (by decide +kernel)))
    (ok_leaf (ok_irem (show decode cX2_awaitsLeft 5 = .ok (.irem, 1) by decide +kernel)))))
    (ok_node
    (ok_node
    (ok_leaf (ok_if_ne (show decode cX2_awaitsLeft 6 = .ok (.ifCond .ne 7, 3) by decide +kernel) (by decide +kernel)))
    (ok_leaf (ok_iconst (show decode cX2_awaitsLeft 9 = .ok (.iconst 1, 1) by decide +kernel) (by decide +kernel))))
    (ok_node
    (ok_leaf (ok_goto (show decode cX2_awaitsLeft 10 = .ok (.goto 4, 3) by decide +kernel) (by decide +kernel)))
    (ok_node
    (ok_leaf (ok_iconst (show decode cX2_awaitsLeft 13 = .ok (.iconst 0, 1) by decide +kernel) (by decide +kernel)))
    (ok_leaf (ok_zreturn (show decode cX2_awaitsLeft 14 = .ok (.ireturn, 1) by decide +kernel) rfl)))))
set_option maxRecDepth 20000 in
set_option maxHeartbeats 4000000 in
theorem ok_X2_count {sc : List Int32} : ∀ pc, pOk mtOf 189 M_X2_count false sc pc (cd_X2_count pc) := by
  unfold cd_X2_count
  exact ok_node
    (ok_node
    (ok_leaf (ok_aload_n (show decode cX2_count 0 = .ok (.aload_n 0, 1) by decide +kernel) rfl))
    (ok_leaf (ok_getfield (show decode cX2_count 1 = .ok (.getfield 25, 3) by decide +kernel) (Or.inl (fd_X2 (by decide) wd_53 rfl rfl)))))
    (ok_node
    (ok_leaf (ok_iconst (show decode cX2_count 4 = .ok (.iconst 2, 1) by decide +kernel) (by decide +kernel)))
    (ok_node
    (ok_leaf (ok_idiv (show decode cX2_count 5 = .ok (.idiv, 1) by decide +kernel)))
    (ok_leaf (ok_ireturn (show decode cX2_count 6 = .ok (.ireturn, 1) by decide +kernel) rfl))))
set_option maxRecDepth 20000 in
set_option maxHeartbeats 4000000 in
theorem ok_X2_total {sc : List Int32} : ∀ pc, pOk mtOf 189 M_X2_total false sc pc (cd_X2_total pc) := by
  unfold cd_X2_total
  exact ok_node
    (ok_leaf (ok_aload_n (show decode cX2_total 0 = .ok (.aload_n 0, 1) by decide +kernel) rfl))
    (ok_node
    (ok_leaf (ok_getfield (show decode cX2_total 1 = .ok (.getfield 29, 3) by decide +kernel) (Or.inl (fd_X2 (by decide) wd_54 rfl rfl))))
    (ok_leaf (ok_ireturn (show decode cX2_total 4 = .ok (.ireturn, 1) by decide +kernel) rfl)))
set_option maxRecDepth 20000 in
set_option maxHeartbeats 4000000 in
theorem ok_X2_has {sc : List Int32} : ∀ pc, pOk mtOf 189 M_X2_has false sc pc (cd_X2_has pc) := by
  unfold cd_X2_has
  exact ok_node
    (ok_node
    (ok_node
    (ok_leaf (ok_iload_n (show decode cX2_has 0 = .ok (.iload_n 1, 1) by decide +kernel) rfl))
    (ok_leaf (ok_if_lt (show decode cX2_has 1 = .ok (.ifCond .lt 15, 3) by decide +kernel) (by decide +kernel))))
    (ok_node
    (ok_leaf (ok_iload_n (show decode cX2_has 4 = .ok (.iload_n 1, 1) by decide +kernel) rfl))
    (ok_node
    (ok_leaf (ok_aload_n (show decode cX2_has 5 = .ok (.aload_n 0, 1) by decide +kernel) rfl))
    (ok_leaf (ok_callV (C := RX2) (T := TX2) (N := 7) (Mc := M_X2_count) (show decode cX2_has 6 = .ok (.invokevirtual 32, 3) by decide +kernel) rfl (by decide) (by decide +kernel) rfl rfl wd_55 wd_56 wd_57 wd_58 wd_59 ⟨by decide +kernel, by decide +kernel, by decide +kernel⟩ (by decide))))))
    (ok_node
    (ok_node
    (ok_leaf (ok_icmp_ge (show decode cX2_has 9 = .ok (.if_icmp .ge 7, 3) by decide +kernel) (by decide +kernel)))
    (ok_leaf (ok_iconst (show decode cX2_has 12 = .ok (.iconst 1, 1) by decide +kernel) (by decide +kernel))))
    (ok_node
    (ok_leaf (ok_goto (show decode cX2_has 13 = .ok (.goto 4, 3) by decide +kernel) (by decide +kernel)))
    (ok_node
    (ok_leaf (ok_iconst (show decode cX2_has 16 = .ok (.iconst 0, 1) by decide +kernel) (by decide +kernel)))
    (ok_leaf (ok_zreturn (show decode cX2_has 17 = .ok (.ireturn, 1) by decide +kernel) rfl)))))
set_option maxRecDepth 20000 in
set_option maxHeartbeats 4000000 in
theorem ok_X2_start {sc : List Int32} : ∀ pc, pOk mtOf 189 M_X2_start false sc pc (cd_X2_start pc) := by
  unfold cd_X2_start
  exact ok_node
    (ok_node
    (ok_node
    (ok_node
    (ok_leaf (ok_aload_n (show decode cX2_start 0 = .ok (.aload_n 0, 1) by decide +kernel) rfl))
    (ok_leaf (ok_iload_n (show decode cX2_start 1 = .ok (.iload_n 1, 1) by decide +kernel) rfl)))
    (ok_node
    (ok_leaf (ok_callV (C := RX2) (T := TX2) (N := 7) (Mc := M_X2_has) (show decode cX2_start 2 = .ok (.invokevirtual 36, 3) by decide +kernel) rfl (by decide) (by decide +kernel) rfl rfl wd_60 wd_61 wd_62 wd_58 wd_63 ⟨by decide +kernel, by decide +kernel, by decide +kernel⟩ (by decide)))
    (ok_leaf (ok_if_eq (show decode cX2_start 5 = .ok (.ifCond .eq 23, 3) by decide +kernel) (by decide +kernel)))))
    (ok_node
    (ok_node
    (ok_leaf (ok_iload_n (show decode cX2_start 8 = .ok (.iload_n 2, 1) by decide +kernel) rfl))
    (ok_leaf (ok_callSN (Mc := M_X10_isSide) (show decode cX2_start 9 = .ok (.invokestatic 40, 3) by decide +kernel) rfl (by decide) (by decide +kernel) (by decide +kernel) wd_64 wd_65 wd_66 ⟨by decide +kernel, by decide +kernel, by decide +kernel⟩ (by decide))))
    (ok_node
    (ok_leaf (ok_if_eq (show decode cX2_start 12 = .ok (.ifCond .eq 16, 3) by decide +kernel) (by decide +kernel)))
    (ok_node
    (ok_leaf (ok_aload_n (show decode cX2_start 15 = .ok (.aload_n 0, 1) by decide +kernel) rfl))
    (ok_leaf (ok_getfield (show decode cX2_start 16 = .ok (.getfield 13, 3) by decide +kernel) (Or.inr (fdF_X2 (by decide) wd_49 rfl rfl))))))))
    (ok_node
    (ok_node
    (ok_node
    (ok_leaf (ok_iconst (show decode cX2_start 19 = .ok (.iconst 2, 1) by decide +kernel) (by decide +kernel)))
    (ok_leaf (ok_iload_n (show decode cX2_start 20 = .ok (.iload_n 1, 1) by decide +kernel) rfl)))
    (ok_node
    (ok_leaf (ok_imul (show decode cX2_start 21 = .ok (.imul, 1) by decide +kernel)))
    (ok_leaf (ok_iload_n (show decode cX2_start 22 = .ok (.iload_n 2, 1) by decide +kernel) rfl))))
    (ok_node
    (ok_node
    (ok_leaf (ok_iadd (show decode cX2_start 23 = .ok (.iadd, 1) by decide +kernel)))
    (ok_leaf (ok_iaload (show decode cX2_start 24 = .ok (.iaload, 1) by decide +kernel))))
    (ok_node
    (ok_leaf (ok_goto (show decode cX2_start 25 = .ok (.goto 4, 3) by decide +kernel) (by decide +kernel)))
    (ok_node
    (ok_leaf (ok_iconst (show decode cX2_start 28 = .ok (.iconst 0, 1) by decide +kernel) (by decide +kernel)))
    (ok_leaf (ok_ireturn (show decode cX2_start 29 = .ok (.ireturn, 1) by decide +kernel) rfl))))))
set_option maxRecDepth 20000 in
set_option maxHeartbeats 4000000 in
theorem ok_X2_letterAt {sc : List Int32} : ∀ pc, pOk mtOf 189 M_X2_letterAt false sc pc (cd_X2_letterAt pc) := by
  unfold cd_X2_letterAt
  exact ok_node
    (ok_node
    (ok_node
    (ok_leaf (ok_iload_n (show decode cX2_letterAt 0 = .ok (.iload_n 1, 1) by decide +kernel) rfl))
    (ok_node
    (ok_leaf (ok_if_lt (show decode cX2_letterAt 1 = .ok (.ifCond .lt 18, 3) by decide +kernel) (by decide +kernel)))
    (ok_leaf (ok_iload_n (show decode cX2_letterAt 4 = .ok (.iload_n 1, 1) by decide +kernel) rfl))))
    (ok_node
    (ok_leaf (ok_bipush (show decode cX2_letterAt 5 = .ok (.bipush 40, 2) by decide +kernel) (by decide +kernel)))
    (ok_node
    (ok_leaf (ok_icmp_ge (show decode cX2_letterAt 7 = .ok (.if_icmp .ge 12, 3) by decide +kernel) (by decide +kernel)))
    (ok_leaf (ok_aload_n (show decode cX2_letterAt 10 = .ok (.aload_n 0, 1) by decide +kernel) rfl)))))
    (ok_node
    (ok_node
    (ok_leaf (ok_getfield (show decode cX2_letterAt 11 = .ok (.getfield 9, 3) by decide +kernel) (Or.inr (fdF_X2 (by decide) wd_48 rfl rfl))))
    (ok_node
    (ok_leaf (ok_iload_n (show decode cX2_letterAt 14 = .ok (.iload_n 1, 1) by decide +kernel) rfl))
    (ok_leaf (ok_iaload (show decode cX2_letterAt 15 = .ok (.iaload, 1) by decide +kernel)))))
    (ok_node
    (ok_leaf (ok_goto (show decode cX2_letterAt 16 = .ok (.goto 4, 3) by decide +kernel) (by decide +kernel)))
    (ok_node
    (ok_leaf (ok_iconst (show decode cX2_letterAt 19 = .ok (.iconst 0, 1) by decide +kernel) (by decide +kernel)))
    (ok_leaf (ok_ireturn (show decode cX2_letterAt 20 = .ok (.ireturn, 1) by decide +kernel) rfl)))))
set_option maxRecDepth 20000 in
set_option maxHeartbeats 4000000 in
theorem ok_X2_nodesAt {sc : List Int32} : ∀ pc, pOk mtOf 189 M_X2_nodesAt false sc pc (cd_X2_nodesAt pc) := by
  unfold cd_X2_nodesAt
  exact ok_node
    (ok_node
    (ok_node
    (ok_leaf (ok_iload_n (show decode cX2_nodesAt 0 = .ok (.iload_n 1, 1) by decide +kernel) rfl))
    (ok_node
    (ok_leaf (ok_if_lt (show decode cX2_nodesAt 1 = .ok (.ifCond .lt 18, 3) by decide +kernel) (by decide +kernel)))
    (ok_leaf (ok_iload_n (show decode cX2_nodesAt 4 = .ok (.iload_n 1, 1) by decide +kernel) rfl))))
    (ok_node
    (ok_leaf (ok_bipush (show decode cX2_nodesAt 5 = .ok (.bipush 40, 2) by decide +kernel) (by decide +kernel)))
    (ok_node
    (ok_leaf (ok_icmp_ge (show decode cX2_nodesAt 7 = .ok (.if_icmp .ge 12, 3) by decide +kernel) (by decide +kernel)))
    (ok_leaf (ok_aload_n (show decode cX2_nodesAt 10 = .ok (.aload_n 0, 1) by decide +kernel) rfl)))))
    (ok_node
    (ok_node
    (ok_leaf (ok_getfield (show decode cX2_nodesAt 11 = .ok (.getfield 16, 3) by decide +kernel) (Or.inr (fdF_X2 (by decide) wd_50 rfl rfl))))
    (ok_node
    (ok_leaf (ok_iload_n (show decode cX2_nodesAt 14 = .ok (.iload_n 1, 1) by decide +kernel) rfl))
    (ok_leaf (ok_iaload (show decode cX2_nodesAt 15 = .ok (.iaload, 1) by decide +kernel)))))
    (ok_node
    (ok_leaf (ok_goto (show decode cX2_nodesAt 16 = .ok (.goto 4, 3) by decide +kernel) (by decide +kernel)))
    (ok_node
    (ok_leaf (ok_iconst (show decode cX2_nodesAt 19 = .ok (.iconst 0, 1) by decide +kernel) (by decide +kernel)))
    (ok_leaf (ok_ireturn (show decode cX2_nodesAt 20 = .ok (.ireturn, 1) by decide +kernel) rfl)))))
set_option maxRecDepth 20000 in
set_option maxHeartbeats 4000000 in
theorem ok_X2_depthAt {sc : List Int32} : ∀ pc, pOk mtOf 189 M_X2_depthAt false sc pc (cd_X2_depthAt pc) := by
  unfold cd_X2_depthAt
  exact ok_node
    (ok_node
    (ok_node
    (ok_leaf (ok_iload_n (show decode cX2_depthAt 0 = .ok (.iload_n 1, 1) by decide +kernel) rfl))
    (ok_node
    (ok_leaf (ok_if_lt (show decode cX2_depthAt 1 = .ok (.ifCond .lt 18, 3) by decide +kernel) (by decide +kernel)))
    (ok_leaf (ok_iload_n (show decode cX2_depthAt 4 = .ok (.iload_n 1, 1) by decide +kernel) rfl))))
    (ok_node
    (ok_leaf (ok_bipush (show decode cX2_depthAt 5 = .ok (.bipush 40, 2) by decide +kernel) (by decide +kernel)))
    (ok_node
    (ok_leaf (ok_icmp_ge (show decode cX2_depthAt 7 = .ok (.if_icmp .ge 12, 3) by decide +kernel) (by decide +kernel)))
    (ok_leaf (ok_aload_n (show decode cX2_depthAt 10 = .ok (.aload_n 0, 1) by decide +kernel) rfl)))))
    (ok_node
    (ok_node
    (ok_leaf (ok_getfield (show decode cX2_depthAt 11 = .ok (.getfield 19, 3) by decide +kernel) (Or.inr (fdF_X2 (by decide) wd_51 rfl rfl))))
    (ok_node
    (ok_leaf (ok_iload_n (show decode cX2_depthAt 14 = .ok (.iload_n 1, 1) by decide +kernel) rfl))
    (ok_leaf (ok_iaload (show decode cX2_depthAt 15 = .ok (.iaload, 1) by decide +kernel)))))
    (ok_node
    (ok_leaf (ok_goto (show decode cX2_depthAt 16 = .ok (.goto 4, 3) by decide +kernel) (by decide +kernel)))
    (ok_node
    (ok_leaf (ok_iconst (show decode cX2_depthAt 19 = .ok (.iconst 0, 1) by decide +kernel) (by decide +kernel)))
    (ok_leaf (ok_ireturn (show decode cX2_depthAt 20 = .ok (.ireturn, 1) by decide +kernel) rfl)))))
set_option maxRecDepth 20000 in
set_option maxHeartbeats 4000000 in
theorem ok_X2_secondOf {sc : List Int32} : ∀ pc, pOk mtOf 189 M_X2_secondOf false sc pc (cd_X2_secondOf pc) := by
  unfold cd_X2_secondOf
  exact ok_node
    (ok_node
    (ok_node
    (ok_leaf (ok_iload_n (show decode cX2_secondOf 0 = .ok (.iload_n 1, 1) by decide +kernel) rfl))
    (ok_node
    (ok_leaf (ok_if_lt (show decode cX2_secondOf 1 = .ok (.ifCond .lt 18, 3) by decide +kernel) (by decide +kernel)))
    (ok_leaf (ok_iload_n (show decode cX2_secondOf 4 = .ok (.iload_n 1, 1) by decide +kernel) rfl))))
    (ok_node
    (ok_leaf (ok_bipush (show decode cX2_secondOf 5 = .ok (.bipush 40, 2) by decide +kernel) (by decide +kernel)))
    (ok_node
    (ok_leaf (ok_icmp_ge (show decode cX2_secondOf 7 = .ok (.if_icmp .ge 12, 3) by decide +kernel) (by decide +kernel)))
    (ok_leaf (ok_aload_n (show decode cX2_secondOf 10 = .ok (.aload_n 0, 1) by decide +kernel) rfl)))))
    (ok_node
    (ok_node
    (ok_leaf (ok_getfield (show decode cX2_secondOf 11 = .ok (.getfield 22, 3) by decide +kernel) (Or.inr (fdF_X2 (by decide) wd_52 rfl rfl))))
    (ok_node
    (ok_leaf (ok_iload_n (show decode cX2_secondOf 14 = .ok (.iload_n 1, 1) by decide +kernel) rfl))
    (ok_leaf (ok_iaload (show decode cX2_secondOf 15 = .ok (.iaload, 1) by decide +kernel)))))
    (ok_node
    (ok_leaf (ok_goto (show decode cX2_secondOf 16 = .ok (.goto 4, 3) by decide +kernel) (by decide +kernel)))
    (ok_node
    (ok_leaf (ok_iconst (show decode cX2_secondOf 19 = .ok (.iconst 0, 1) by decide +kernel) (by decide +kernel)))
    (ok_leaf (ok_ireturn (show decode cX2_secondOf 20 = .ok (.ireturn, 1) by decide +kernel) rfl)))))
set_option maxRecDepth 20000 in
set_option maxHeartbeats 4000000 in
theorem ok_X2_flexIn {sc : List Int32} : ∀ pc, pOk mtOf 189 M_X2_flexIn false sc pc (cd_X2_flexIn pc) := by
  unfold cd_X2_flexIn
  exact ok_node
    (ok_node
    (ok_node
    (ok_node
    (ok_leaf (ok_iconst (show decode cX2_flexIn 0 = .ok (.iconst 0, 1) by decide +kernel) (by decide +kernel)))
    (ok_node
    (ok_leaf (ok_istore_n (show decode cX2_flexIn 1 = .ok (.istore_n 3, 1) by decide +kernel) rfl))
    (ok_leaf (ok_iload_n (show decode cX2_flexIn 2 = .ok (.iload_n 1, 1) by decide +kernel) rfl))))
    (ok_node
    (ok_leaf (ok_istore (show decode cX2_flexIn 3 = .ok (.istore 4, 2) by decide +kernel)))
    (ok_node
    (ok_leaf (ok_iload (show decode cX2_flexIn 5 = .ok (.iload 4, 2) by decide +kernel)))
    (ok_leaf (ok_iload_n (show decode cX2_flexIn 7 = .ok (.iload_n 1, 1) by decide +kernel) rfl)))))
    (ok_node
    (ok_node
    (ok_leaf (ok_iload_n (show decode cX2_flexIn 8 = .ok (.iload_n 2, 1) by decide +kernel) rfl))
    (ok_node
    (ok_leaf (ok_iadd (show decode cX2_flexIn 9 = .ok (.iadd, 1) by decide +kernel)))
    (ok_leaf (ok_icmp_ge (show decode cX2_flexIn 10 = .ok (.if_icmp .ge 35, 3) by decide +kernel) (by decide +kernel)))))
    (ok_node
    (ok_node
    (ok_leaf (ok_aload_n (show decode cX2_flexIn 13 = .ok (.aload_n 0, 1) by decide +kernel) rfl))
    (ok_leaf (ok_iload (show decode cX2_flexIn 14 = .ok (.iload 4, 2) by decide +kernel))))
    (ok_node
    (ok_leaf (ok_callV (C := RX2) (T := TX2) (N := 7) (Mc := M_X2_letterAt) (show decode cX2_flexIn 16 = .ok (.invokevirtual 45, 3) by decide +kernel) rfl (by decide) (by decide +kernel) rfl rfl wd_67 wd_68 wd_69 wd_58 wd_70 ⟨by decide +kernel, by decide +kernel, by decide +kernel⟩ (by decide)))
    (ok_leaf (ok_callS (Mc := M_X5_isFlex) (show decode cX2_flexIn 19 = .ok (.invokestatic 49, 3) by decide +kernel) rfl (by decide) (by decide +kernel) wd_71 wd_72 wd_28 wd_73 ⟨by decide +kernel, by decide +kernel, by decide +kernel⟩ (by decide)))))))
    (ok_node
    (ok_node
    (ok_node
    (ok_leaf (ok_if_eq (show decode cX2_flexIn 22 = .ok (.ifCond .eq 17, 3) by decide +kernel) (by decide +kernel)))
    (ok_node
    (ok_leaf (ok_iload_n (show decode cX2_flexIn 25 = .ok (.iload_n 3, 1) by decide +kernel) rfl))
    (ok_leaf (ok_iconst (show decode cX2_flexIn 26 = .ok (.iconst 1, 1) by decide +kernel) (by decide +kernel)))))
    (ok_node
    (ok_node
    (ok_leaf (ok_aload_n (show decode cX2_flexIn 27 = .ok (.aload_n 0, 1) by decide +kernel) rfl))
    (ok_leaf (ok_iload (show decode cX2_flexIn 28 = .ok (.iload 4, 2) by decide +kernel))))
    (ok_node
    (ok_leaf (ok_callV (C := RX2) (T := TX2) (N := 7) (Mc := M_X2_letterAt) (show decode cX2_flexIn 30 = .ok (.invokevirtual 45, 3) by decide +kernel) rfl (by decide) (by decide +kernel) rfl rfl wd_67 wd_68 wd_69 wd_58 wd_70 ⟨by decide +kernel, by decide +kernel, by decide +kernel⟩ (by decide)))
    (ok_leaf (ok_callS (Mc := M_X5_kind) (show decode cX2_flexIn 33 = .ok (.invokestatic 54, 3) by decide +kernel) rfl (by decide) (by decide +kernel) wd_74 wd_36 wd_28 wd_37 ⟨by decide +kernel, by decide +kernel, by decide +kernel⟩ (by decide))))))
    (ok_node
    (ok_node
    (ok_leaf (ok_ishl (show decode cX2_flexIn 36 = .ok (.ishl, 1) by decide +kernel)))
    (ok_node
    (ok_leaf (ok_ior (show decode cX2_flexIn 37 = .ok (.ior, 1) by decide +kernel)))
    (ok_leaf (ok_istore_n (show decode cX2_flexIn 38 = .ok (.istore_n 3, 1) by decide +kernel) rfl))))
    (ok_node
    (ok_node
    (ok_leaf (ok_iinc (show decode cX2_flexIn 39 = .ok (.iinc 4 1, 3) by decide +kernel) (by decide +kernel)))
    (ok_leaf (ok_goto (show decode cX2_flexIn 42 = .ok (.goto (-37), 3) by decide +kernel) (by decide +kernel))))
    (ok_node
    (ok_leaf (ok_iload_n (show decode cX2_flexIn 45 = .ok (.iload_n 3, 1) by decide +kernel) rfl))
    (ok_leaf (ok_ireturn (show decode cX2_flexIn 46 = .ok (.ireturn, 1) by decide +kernel) rfl))))))
set_option maxRecDepth 20000 in
set_option maxHeartbeats 4000000 in
theorem ok_X2_copyFrom {sc : List Int32} : ∀ pc, pOk mtOf 189 M_X2_copyFrom false sc pc (cd_X2_copyFrom pc) := by
  unfold cd_X2_copyFrom
  exact ok_node
    (ok_node
    (ok_node
    (ok_node
    (ok_leaf (ok_aload_n (show decode cX2_copyFrom 0 = .ok (.aload_n 1, 1) by decide +kernel) rfl))
    (ok_node
    (ok_leaf (ok_ifnonnull (show decode cX2_copyFrom 1 = .ok (.ifnonnull 4, 3) by decide +kernel) (by decide +kernel)))
    (ok_leaf (ok_return (show decode cX2_copyFrom 4 = .ok (.return_, 1) by decide +kernel) rfl))))
    (ok_node
    (ok_node
    (ok_leaf (ok_aload_n (show decode cX2_copyFrom 5 = .ok (.aload_n 1, 1) by decide +kernel) rfl))
    (ok_leaf (ok_getfield (show decode cX2_copyFrom 6 = .ok (.getfield 9, 3) by decide +kernel) (Or.inr (fdF_X2 (by decide) wd_48 rfl rfl)))))
    (ok_node
    (ok_leaf (ok_iconst (show decode cX2_copyFrom 9 = .ok (.iconst 0, 1) by decide +kernel) (by decide +kernel)))
    (ok_leaf (ok_aload_n (show decode cX2_copyFrom 10 = .ok (.aload_n 0, 1) by decide +kernel) rfl)))))
    (ok_node
    (ok_node
    (ok_node
    (ok_leaf (ok_getfield (show decode cX2_copyFrom 11 = .ok (.getfield 9, 3) by decide +kernel) (Or.inr (fdF_X2 (by decide) wd_48 rfl rfl))))
    (ok_leaf (ok_iconst (show decode cX2_copyFrom 14 = .ok (.iconst 0, 1) by decide +kernel) (by decide +kernel))))
    (ok_node
    (ok_leaf (ok_bipush (show decode cX2_copyFrom 15 = .ok (.bipush 40, 2) by decide +kernel) (by decide +kernel)))
    (ok_leaf (ok_copy (show decode cX2_copyFrom 17 = .ok (.invokestatic 57, 3) by decide +kernel) wd_75 wd_76 wd_77 wd_78))))
    (ok_node
    (ok_node
    (ok_leaf (ok_aload_n (show decode cX2_copyFrom 20 = .ok (.aload_n 1, 1) by decide +kernel) rfl))
    (ok_leaf (ok_getfield (show decode cX2_copyFrom 21 = .ok (.getfield 13, 3) by decide +kernel) (Or.inr (fdF_X2 (by decide) wd_49 rfl rfl)))))
    (ok_node
    (ok_leaf (ok_iconst (show decode cX2_copyFrom 24 = .ok (.iconst 0, 1) by decide +kernel) (by decide +kernel)))
    (ok_leaf (ok_aload_n (show decode cX2_copyFrom 25 = .ok (.aload_n 0, 1) by decide +kernel) rfl))))))
    (ok_node
    (ok_node
    (ok_node
    (ok_leaf (ok_getfield (show decode cX2_copyFrom 26 = .ok (.getfield 13, 3) by decide +kernel) (Or.inr (fdF_X2 (by decide) wd_49 rfl rfl))))
    (ok_node
    (ok_leaf (ok_iconst (show decode cX2_copyFrom 29 = .ok (.iconst 0, 1) by decide +kernel) (by decide +kernel)))
    (ok_leaf (ok_bipush (show decode cX2_copyFrom 30 = .ok (.bipush 9, 2) by decide +kernel) (by decide +kernel)))))
    (ok_node
    (ok_node
    (ok_leaf (ok_copy (show decode cX2_copyFrom 32 = .ok (.invokestatic 57, 3) by decide +kernel) wd_75 wd_76 wd_77 wd_78))
    (ok_leaf (ok_aload_n (show decode cX2_copyFrom 35 = .ok (.aload_n 0, 1) by decide +kernel) rfl)))
    (ok_node
    (ok_leaf (ok_aload_n (show decode cX2_copyFrom 36 = .ok (.aload_n 1, 1) by decide +kernel) rfl))
    (ok_leaf (ok_getfield (show decode cX2_copyFrom 37 = .ok (.getfield 25, 3) by decide +kernel) (Or.inl (fd_X2 (by decide) wd_53 rfl rfl)))))))
    (ok_node
    (ok_node
    (ok_node
    (ok_leaf (ok_putI (show decode cX2_copyFrom 40 = .ok (.putfield 25, 3) by decide +kernel) (Or.inl (fd_X2 (by decide) wd_53 rfl rfl)) rfl))
    (ok_leaf (ok_aload_n (show decode cX2_copyFrom 43 = .ok (.aload_n 0, 1) by decide +kernel) rfl)))
    (ok_node
    (ok_leaf (ok_aload_n (show decode cX2_copyFrom 44 = .ok (.aload_n 1, 1) by decide +kernel) rfl))
    (ok_leaf (ok_getfield (show decode cX2_copyFrom 45 = .ok (.getfield 29, 3) by decide +kernel) (Or.inl (fd_X2 (by decide) wd_54 rfl rfl))))))
    (ok_node
    (ok_node
    (ok_leaf (ok_putI (show decode cX2_copyFrom 48 = .ok (.putfield 29, 3) by decide +kernel) (Or.inl (fd_X2 (by decide) wd_54 rfl rfl)) rfl))
    (ok_leaf (ok_aload_n (show decode cX2_copyFrom 51 = .ok (.aload_n 0, 1) by decide +kernel) rfl)))
    (ok_node
    (ok_leaf (ok_callV (C := RX2) (T := TX2) (N := 7) (Mc := M_X2_measure) (show decode cX2_copyFrom 52 = .ok (.invokevirtual 63, 3) by decide +kernel) rfl (by decide) (by decide +kernel) rfl rfl wd_79 wd_80 wd_81 wd_58 wd_82 ⟨by decide +kernel, by decide +kernel, by decide +kernel⟩ (by decide)))
    (ok_leaf (ok_return (show decode cX2_copyFrom 55 = .ok (.return_, 1) by decide +kernel) rfl))))))
