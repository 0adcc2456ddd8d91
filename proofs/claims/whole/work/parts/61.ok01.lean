set_option maxRecDepth 20000 in
set_option maxHeartbeats 4000000 in
theorem ok_X2_remove {sc : List Int32} : ∀ pc, pOk mtOf 189 M_X2_remove false sc pc (cd_X2_remove pc) := by
  unfold cd_X2_remove
  exact ok_node
    (ok_node
    (ok_node
    (ok_node
    (ok_node
    (ok_node
    (ok_leaf (ok_aload_n (show decode cX2_remove 0 = .ok (.aload_n 0, 1) by decide +kernel) rfl))
    (ok_leaf (ok_iload_n (show decode cX2_remove 1 = .ok (.iload_n 1, 1) by decide +kernel) rfl)))
    (ok_node
    (ok_leaf (ok_callV (C := RX2) (T := TX2) (N := 7) (Mc := M_X2_has) (show decode cX2_remove 2 = .ok (.invokevirtual 36, 3) by decide +kernel) rfl (by decide) (by decide +kernel) rfl rfl wd_60 wd_61 wd_62 wd_58 wd_63 ⟨by decide +kernel, by decide +kernel, by decide +kernel⟩ (by decide)))
    (ok_leaf (ok_if_ne (show decode cX2_remove 5 = .ok (.ifCond .ne 4, 3) by decide +kernel) (by decide +kernel)))))
    (ok_node
    (ok_node
    (ok_leaf (ok_return (show decode cX2_remove 8 = .ok (.return_, 1) by decide +kernel) rfl))
    (ok_leaf (ok_aload_n (show decode cX2_remove 9 = .ok (.aload_n 0, 1) by decide +kernel) rfl)))
    (ok_node
    (ok_leaf (ok_getfield (show decode cX2_remove 10 = .ok (.getfield 13, 3) by decide +kernel) (Or.inr (fdF_X2 (by decide) wd_49 rfl rfl))))
    (ok_node
    (ok_leaf (ok_iconst (show decode cX2_remove 13 = .ok (.iconst 2, 1) by decide +kernel) (by decide +kernel)))
    (ok_leaf (ok_iload_n (show decode cX2_remove 14 = .ok (.iload_n 1, 1) by decide +kernel) rfl))))))
    (ok_node
    (ok_node
    (ok_node
    (ok_leaf (ok_imul (show decode cX2_remove 15 = .ok (.imul, 1) by decide +kernel)))
    (ok_leaf (ok_iaload (show decode cX2_remove 16 = .ok (.iaload, 1) by decide +kernel))))
    (ok_node
    (ok_leaf (ok_istore_n (show decode cX2_remove 17 = .ok (.istore_n 2, 1) by decide +kernel) rfl))
    (ok_leaf (ok_aload_n (show decode cX2_remove 18 = .ok (.aload_n 0, 1) by decide +kernel) rfl))))
    (ok_node
    (ok_node
    (ok_leaf (ok_getfield (show decode cX2_remove 19 = .ok (.getfield 13, 3) by decide +kernel) (Or.inr (fdF_X2 (by decide) wd_49 rfl rfl))))
    (ok_leaf (ok_iconst (show decode cX2_remove 22 = .ok (.iconst 2, 1) by decide +kernel) (by decide +kernel))))
    (ok_node
    (ok_leaf (ok_iload_n (show decode cX2_remove 23 = .ok (.iload_n 1, 1) by decide +kernel) rfl))
    (ok_node
    (ok_leaf (ok_imul (show decode cX2_remove 24 = .ok (.imul, 1) by decide +kernel)))
    (ok_leaf (ok_iconst (show decode cX2_remove 25 = .ok (.iconst 2, 1) by decide +kernel) (by decide +kernel))))))))
    (ok_node
    (ok_node
    (ok_node
    (ok_node
    (ok_leaf (ok_iadd (show decode cX2_remove 26 = .ok (.iadd, 1) by decide +kernel)))
    (ok_leaf (ok_iaload (show decode cX2_remove 27 = .ok (.iaload, 1) by decide +kernel))))
    (ok_node
    (ok_leaf (ok_istore_n (show decode cX2_remove 28 = .ok (.istore_n 3, 1) by decide +kernel) rfl))
    (ok_leaf (ok_aload_n (show decode cX2_remove 29 = .ok (.aload_n 0, 1) by decide +kernel) rfl))))
    (ok_node
    (ok_node
    (ok_leaf (ok_getfield (show decode cX2_remove 30 = .ok (.getfield 9, 3) by decide +kernel) (Or.inr (fdF_X2 (by decide) wd_48 rfl rfl))))
    (ok_leaf (ok_iload_n (show decode cX2_remove 33 = .ok (.iload_n 3, 1) by decide +kernel) rfl)))
    (ok_node
    (ok_leaf (ok_aload_n (show decode cX2_remove 34 = .ok (.aload_n 0, 1) by decide +kernel) rfl))
    (ok_node
    (ok_leaf (ok_getfield (show decode cX2_remove 35 = .ok (.getfield 9, 3) by decide +kernel) (Or.inr (fdF_X2 (by decide) wd_48 rfl rfl))))
    (ok_leaf (ok_iload_n (show decode cX2_remove 38 = .ok (.iload_n 2, 1) by decide +kernel) rfl))))))
    (ok_node
    (ok_node
    (ok_node
    (ok_leaf (ok_aload_n (show decode cX2_remove 39 = .ok (.aload_n 0, 1) by decide +kernel) rfl))
    (ok_leaf (ok_getfield (show decode cX2_remove 40 = .ok (.getfield 29, 3) by decide +kernel) (Or.inl (fd_X2 (by decide) wd_54 rfl rfl)))))
    (ok_node
    (ok_leaf (ok_iload_n (show decode cX2_remove 43 = .ok (.iload_n 3, 1) by decide +kernel) rfl))
    (ok_node
    (ok_leaf (ok_isub (show decode cX2_remove 44 = .ok (.isub, 1) by decide +kernel)))
    (ok_leaf (ok_copy (show decode cX2_remove 45 = .ok (.invokestatic 57, 3) by decide +kernel) wd_75 wd_76 wd_77 wd_78)))))
    (ok_node
    (ok_node
    (ok_leaf (ok_iconst (show decode cX2_remove 48 = .ok (.iconst 2, 1) by decide +kernel) (by decide +kernel)))
    (ok_leaf (ok_iload_n (show decode cX2_remove 49 = .ok (.iload_n 1, 1) by decide +kernel) rfl)))
    (ok_node
    (ok_leaf (ok_imul (show decode cX2_remove 50 = .ok (.imul, 1) by decide +kernel)))
    (ok_node
    (ok_leaf (ok_istore (show decode cX2_remove 51 = .ok (.istore 4, 2) by decide +kernel)))
    (ok_leaf (ok_iload (show decode cX2_remove 53 = .ok (.iload 4, 2) by decide +kernel)))))))))
    (ok_node
    (ok_node
    (ok_node
    (ok_node
    (ok_node
    (ok_leaf (ok_iconst (show decode cX2_remove 55 = .ok (.iconst 2, 1) by decide +kernel) (by decide +kernel)))
    (ok_leaf (ok_iadd (show decode cX2_remove 56 = .ok (.iadd, 1) by decide +kernel))))
    (ok_node
    (ok_leaf (ok_aload_n (show decode cX2_remove 57 = .ok (.aload_n 0, 1) by decide +kernel) rfl))
    (ok_leaf (ok_getfield (show decode cX2_remove 58 = .ok (.getfield 25, 3) by decide +kernel) (Or.inl (fd_X2 (by decide) wd_53 rfl rfl))))))
    (ok_node
    (ok_node
    (ok_leaf (ok_icmp_gt (show decode cX2_remove 61 = .ok (.if_icmp .gt 29, 3) by decide +kernel) (by decide +kernel)))
    (ok_leaf (ok_aload_n (show decode cX2_remove 64 = .ok (.aload_n 0, 1) by decide +kernel) rfl)))
    (ok_node
    (ok_leaf (ok_getfield (show decode cX2_remove 65 = .ok (.getfield 13, 3) by decide +kernel) (Or.inr (fdF_X2 (by decide) wd_49 rfl rfl))))
    (ok_node
    (ok_leaf (ok_iload (show decode cX2_remove 68 = .ok (.iload 4, 2) by decide +kernel)))
    (ok_leaf (ok_aload_n (show decode cX2_remove 70 = .ok (.aload_n 0, 1) by decide +kernel) rfl))))))
    (ok_node
    (ok_node
    (ok_node
    (ok_leaf (ok_getfield (show decode cX2_remove 71 = .ok (.getfield 13, 3) by decide +kernel) (Or.inr (fdF_X2 (by decide) wd_49 rfl rfl))))
    (ok_leaf (ok_iload (show decode cX2_remove 74 = .ok (.iload 4, 2) by decide +kernel))))
    (ok_node
    (ok_leaf (ok_iconst (show decode cX2_remove 76 = .ok (.iconst 2, 1) by decide +kernel) (by decide +kernel)))
    (ok_node
    (ok_leaf (ok_iadd (show decode cX2_remove 77 = .ok (.iadd, 1) by decide +kernel)))
    (ok_leaf (ok_iaload (show decode cX2_remove 78 = .ok (.iaload, 1) by decide +kernel))))))
    (ok_node
    (ok_node
    (ok_leaf (ok_iload_n (show decode cX2_remove 79 = .ok (.iload_n 3, 1) by decide +kernel) rfl))
    (ok_leaf (ok_iload_n (show decode cX2_remove 80 = .ok (.iload_n 2, 1) by decide +kernel) rfl)))
    (ok_node
    (ok_leaf (ok_isub (show decode cX2_remove 81 = .ok (.isub, 1) by decide +kernel)))
    (ok_node
    (ok_leaf (ok_isub (show decode cX2_remove 82 = .ok (.isub, 1) by decide +kernel)))
    (ok_leaf (ok_iastore (show decode cX2_remove 83 = .ok (.iastore, 1) by decide +kernel))))))))
    (ok_node
    (ok_node
    (ok_node
    (ok_node
    (ok_leaf (ok_iinc (show decode cX2_remove 84 = .ok (.iinc 4 1, 3) by decide +kernel) (by decide +kernel)))
    (ok_leaf (ok_goto (show decode cX2_remove 87 = .ok (.goto (-34), 3) by decide +kernel) (by decide +kernel))))
    (ok_node
    (ok_leaf (ok_aload_n (show decode cX2_remove 90 = .ok (.aload_n 0, 1) by decide +kernel) rfl))
    (ok_leaf (ok_dup (show decode cX2_remove 91 = .ok (.dup, 1) by decide +kernel)))))
    (ok_node
    (ok_node
    (ok_leaf (ok_getfield (show decode cX2_remove 92 = .ok (.getfield 25, 3) by decide +kernel) (Or.inl (fd_X2 (by decide) wd_53 rfl rfl))))
    (ok_leaf (ok_iconst (show decode cX2_remove 95 = .ok (.iconst 2, 1) by decide +kernel) (by decide +kernel))))
    (ok_node
    (ok_leaf (ok_isub (show decode cX2_remove 96 = .ok (.isub, 1) by decide +kernel)))
    (ok_node
    (ok_leaf (ok_putI (show decode cX2_remove 97 = .ok (.putfield 25, 3) by decide +kernel) (Or.inl (fd_X2 (by decide) wd_53 rfl rfl)) rfl))
    (ok_leaf (ok_aload_n (show decode cX2_remove 100 = .ok (.aload_n 0, 1) by decide +kernel) rfl))))))
    (ok_node
    (ok_node
    (ok_node
    (ok_leaf (ok_dup (show decode cX2_remove 101 = .ok (.dup, 1) by decide +kernel)))
    (ok_leaf (ok_getfield (show decode cX2_remove 102 = .ok (.getfield 29, 3) by decide +kernel) (Or.inl (fd_X2 (by decide) wd_54 rfl rfl)))))
    (ok_node
    (ok_leaf (ok_iload_n (show decode cX2_remove 105 = .ok (.iload_n 3, 1) by decide +kernel) rfl))
    (ok_node
    (ok_leaf (ok_iload_n (show decode cX2_remove 106 = .ok (.iload_n 2, 1) by decide +kernel) rfl))
    (ok_leaf (ok_isub (show decode cX2_remove 107 = .ok (.isub, 1) by decide +kernel))))))
    (ok_node
    (ok_node
    (ok_leaf (ok_isub (show decode cX2_remove 108 = .ok (.isub, 1) by decide +kernel)))
    (ok_leaf (ok_putI (show decode cX2_remove 109 = .ok (.putfield 29, 3) by decide +kernel) (Or.inl (fd_X2 (by decide) wd_54 rfl rfl)) rfl)))
    (ok_node
    (ok_leaf (ok_aload_n (show decode cX2_remove 112 = .ok (.aload_n 0, 1) by decide +kernel) rfl))
    (ok_node
    (ok_leaf (ok_callV (C := RX2) (T := TX2) (N := 7) (Mc := M_X2_measure) (show decode cX2_remove 113 = .ok (.invokevirtual 63, 3) by decide +kernel) rfl (by decide) (by decide +kernel) rfl rfl wd_79 wd_80 wd_81 wd_58 wd_82 ⟨by decide +kernel, by decide +kernel, by decide +kernel⟩ (by decide)))
    (ok_leaf (ok_return (show decode cX2_remove 116 = .ok (.return_, 1) by decide +kernel) rfl))))))))
set_option maxRecDepth 20000 in
set_option maxHeartbeats 4000000 in
theorem ok_X2_turn {sc : List Int32} : ∀ pc, pOk mtOf 189 M_X2_turn false sc pc (cd_X2_turn pc) := by
  unfold cd_X2_turn
  exact ok_node
    (ok_node
    (ok_node
    (ok_node
    (ok_node
    (ok_node
    (ok_leaf (ok_aload_n (show decode cX2_turn 0 = .ok (.aload_n 0, 1) by decide +kernel) rfl))
    (ok_leaf (ok_iload_n (show decode cX2_turn 1 = .ok (.iload_n 1, 1) by decide +kernel) rfl)))
    (ok_node
    (ok_leaf (ok_callV (C := RX2) (T := TX2) (N := 7) (Mc := M_X2_has) (show decode cX2_turn 2 = .ok (.invokevirtual 36, 3) by decide +kernel) rfl (by decide) (by decide +kernel) rfl rfl wd_60 wd_61 wd_62 wd_58 wd_63 ⟨by decide +kernel, by decide +kernel, by decide +kernel⟩ (by decide)))
    (ok_leaf (ok_if_ne (show decode cX2_turn 5 = .ok (.ifCond .ne 4, 3) by decide +kernel) (by decide +kernel)))))
    (ok_node
    (ok_node
    (ok_leaf (ok_return (show decode cX2_turn 8 = .ok (.return_, 1) by decide +kernel) rfl))
    (ok_leaf (ok_aload_n (show decode cX2_turn 9 = .ok (.aload_n 0, 1) by decide +kernel) rfl)))
    (ok_node
    (ok_leaf (ok_getfield (show decode cX2_turn 10 = .ok (.getfield 13, 3) by decide +kernel) (Or.inr (fdF_X2 (by decide) wd_49 rfl rfl))))
    (ok_node
    (ok_leaf (ok_iconst (show decode cX2_turn 13 = .ok (.iconst 2, 1) by decide +kernel) (by decide +kernel)))
    (ok_leaf (ok_iload_n (show decode cX2_turn 14 = .ok (.iload_n 1, 1) by decide +kernel) rfl))))))
    (ok_node
    (ok_node
    (ok_node
    (ok_leaf (ok_imul (show decode cX2_turn 15 = .ok (.imul, 1) by decide +kernel)))
    (ok_leaf (ok_iaload (show decode cX2_turn 16 = .ok (.iaload, 1) by decide +kernel))))
    (ok_node
    (ok_leaf (ok_istore_n (show decode cX2_turn 17 = .ok (.istore_n 2, 1) by decide +kernel) rfl))
    (ok_leaf (ok_aload_n (show decode cX2_turn 18 = .ok (.aload_n 0, 1) by decide +kernel) rfl))))
    (ok_node
    (ok_node
    (ok_leaf (ok_getfield (show decode cX2_turn 19 = .ok (.getfield 13, 3) by decide +kernel) (Or.inr (fdF_X2 (by decide) wd_49 rfl rfl))))
    (ok_leaf (ok_iconst (show decode cX2_turn 22 = .ok (.iconst 2, 1) by decide +kernel) (by decide +kernel))))
    (ok_node
    (ok_leaf (ok_iload_n (show decode cX2_turn 23 = .ok (.iload_n 1, 1) by decide +kernel) rfl))
    (ok_node
    (ok_leaf (ok_imul (show decode cX2_turn 24 = .ok (.imul, 1) by decide +kernel)))
    (ok_leaf (ok_iconst (show decode cX2_turn 25 = .ok (.iconst 1, 1) by decide +kernel) (by decide +kernel))))))))
    (ok_node
    (ok_node
    (ok_node
    (ok_node
    (ok_leaf (ok_iadd (show decode cX2_turn 26 = .ok (.iadd, 1) by decide +kernel)))
    (ok_leaf (ok_iaload (show decode cX2_turn 27 = .ok (.iaload, 1) by decide +kernel))))
    (ok_node
    (ok_leaf (ok_istore_n (show decode cX2_turn 28 = .ok (.istore_n 3, 1) by decide +kernel) rfl))
    (ok_leaf (ok_aload_n (show decode cX2_turn 29 = .ok (.aload_n 0, 1) by decide +kernel) rfl))))
    (ok_node
    (ok_node
    (ok_leaf (ok_getfield (show decode cX2_turn 30 = .ok (.getfield 13, 3) by decide +kernel) (Or.inr (fdF_X2 (by decide) wd_49 rfl rfl))))
    (ok_leaf (ok_iconst (show decode cX2_turn 33 = .ok (.iconst 2, 1) by decide +kernel) (by decide +kernel))))
    (ok_node
    (ok_leaf (ok_iload_n (show decode cX2_turn 34 = .ok (.iload_n 1, 1) by decide +kernel) rfl))
    (ok_node
    (ok_leaf (ok_imul (show decode cX2_turn 35 = .ok (.imul, 1) by decide +kernel)))
    (ok_leaf (ok_iconst (show decode cX2_turn 36 = .ok (.iconst 2, 1) by decide +kernel) (by decide +kernel)))))))
    (ok_node
    (ok_node
    (ok_node
    (ok_leaf (ok_iadd (show decode cX2_turn 37 = .ok (.iadd, 1) by decide +kernel)))
    (ok_leaf (ok_iaload (show decode cX2_turn 38 = .ok (.iaload, 1) by decide +kernel))))
    (ok_node
    (ok_leaf (ok_istore (show decode cX2_turn 39 = .ok (.istore 4, 2) by decide +kernel)))
    (ok_node
    (ok_leaf (ok_aload_n (show decode cX2_turn 41 = .ok (.aload_n 0, 1) by decide +kernel) rfl))
    (ok_leaf (ok_getfield (show decode cX2_turn 42 = .ok (.getfield 9, 3) by decide +kernel) (Or.inr (fdF_X2 (by decide) wd_48 rfl rfl)))))))
    (ok_node
    (ok_node
    (ok_leaf (ok_iload_n (show decode cX2_turn 45 = .ok (.iload_n 2, 1) by decide +kernel) rfl))
    (ok_leaf (ok_iload_n (show decode cX2_turn 46 = .ok (.iload_n 3, 1) by decide +kernel) rfl)))
    (ok_node
    (ok_leaf (ok_copyR (show decode cX2_turn 47 = .ok (.invokestatic 66, 3) by decide +kernel) wd_83))
    (ok_node
    (ok_leaf (ok_astore (show decode cX2_turn 50 = .ok (.astore 5, 2) by decide +kernel)))
    (ok_leaf (ok_aload_n (show decode cX2_turn 52 = .ok (.aload_n 0, 1) by decide +kernel) rfl))))))))
    (ok_node
    (ok_node
    (ok_node
    (ok_node
    (ok_node
    (ok_leaf (ok_getfield (show decode cX2_turn 53 = .ok (.getfield 9, 3) by decide +kernel) (Or.inr (fdF_X2 (by decide) wd_48 rfl rfl))))
    (ok_leaf (ok_iload_n (show decode cX2_turn 56 = .ok (.iload_n 3, 1) by decide +kernel) rfl)))
    (ok_node
    (ok_leaf (ok_aload_n (show decode cX2_turn 57 = .ok (.aload_n 0, 1) by decide +kernel) rfl))
    (ok_leaf (ok_getfield (show decode cX2_turn 58 = .ok (.getfield 9, 3) by decide +kernel) (Or.inr (fdF_X2 (by decide) wd_48 rfl rfl))))))
    (ok_node
    (ok_node
    (ok_leaf (ok_iload_n (show decode cX2_turn 61 = .ok (.iload_n 2, 1) by decide +kernel) rfl))
    (ok_leaf (ok_iload (show decode cX2_turn 62 = .ok (.iload 4, 2) by decide +kernel))))
    (ok_node
    (ok_leaf (ok_iload_n (show decode cX2_turn 64 = .ok (.iload_n 3, 1) by decide +kernel) rfl))
    (ok_node
    (ok_leaf (ok_isub (show decode cX2_turn 65 = .ok (.isub, 1) by decide +kernel)))
    (ok_leaf (ok_copy (show decode cX2_turn 66 = .ok (.invokestatic 57, 3) by decide +kernel) wd_75 wd_76 wd_77 wd_78))))))
    (ok_node
    (ok_node
    (ok_node
    (ok_leaf (ok_aload (show decode cX2_turn 69 = .ok (.aload 5, 2) by decide +kernel)))
    (ok_leaf (ok_iconst (show decode cX2_turn 71 = .ok (.iconst 0, 1) by decide +kernel) (by decide +kernel))))
    (ok_node
    (ok_leaf (ok_aload_n (show decode cX2_turn 72 = .ok (.aload_n 0, 1) by decide +kernel) rfl))
    (ok_leaf (ok_getfield (show decode cX2_turn 73 = .ok (.getfield 9, 3) by decide +kernel) (Or.inr (fdF_X2 (by decide) wd_48 rfl rfl))))))
    (ok_node
    (ok_node
    (ok_leaf (ok_iload_n (show decode cX2_turn 76 = .ok (.iload_n 2, 1) by decide +kernel) rfl))
    (ok_leaf (ok_iload (show decode cX2_turn 77 = .ok (.iload 4, 2) by decide +kernel))))
    (ok_node
    (ok_leaf (ok_iadd (show decode cX2_turn 79 = .ok (.iadd, 1) by decide +kernel)))
    (ok_node
    (ok_leaf (ok_iload_n (show decode cX2_turn 80 = .ok (.iload_n 3, 1) by decide +kernel) rfl))
    (ok_leaf (ok_isub (show decode cX2_turn 81 = .ok (.isub, 1) by decide +kernel))))))))
    (ok_node
    (ok_node
    (ok_node
    (ok_node
    (ok_leaf (ok_aload (show decode cX2_turn 82 = .ok (.aload 5, 2) by decide +kernel)))
    (ok_leaf (ok_arraylength (show decode cX2_turn 84 = .ok (.arraylength, 1) by decide +kernel))))
    (ok_node
    (ok_leaf (ok_copy (show decode cX2_turn 85 = .ok (.invokestatic 57, 3) by decide +kernel) wd_75 wd_76 wd_77 wd_78))
    (ok_leaf (ok_aload_n (show decode cX2_turn 88 = .ok (.aload_n 0, 1) by decide +kernel) rfl))))
    (ok_node
    (ok_node
    (ok_leaf (ok_getfield (show decode cX2_turn 89 = .ok (.getfield 13, 3) by decide +kernel) (Or.inr (fdF_X2 (by decide) wd_49 rfl rfl))))
    (ok_leaf (ok_iconst (show decode cX2_turn 92 = .ok (.iconst 2, 1) by decide +kernel) (by decide +kernel))))
    (ok_node
    (ok_leaf (ok_iload_n (show decode cX2_turn 93 = .ok (.iload_n 1, 1) by decide +kernel) rfl))
    (ok_node
    (ok_leaf (ok_imul (show decode cX2_turn 94 = .ok (.imul, 1) by decide +kernel)))
    (ok_leaf (ok_iconst (show decode cX2_turn 95 = .ok (.iconst 1, 1) by decide +kernel) (by decide +kernel)))))))
    (ok_node
    (ok_node
    (ok_node
    (ok_leaf (ok_iadd (show decode cX2_turn 96 = .ok (.iadd, 1) by decide +kernel)))
    (ok_leaf (ok_iload_n (show decode cX2_turn 97 = .ok (.iload_n 2, 1) by decide +kernel) rfl)))
    (ok_node
    (ok_leaf (ok_iload (show decode cX2_turn 98 = .ok (.iload 4, 2) by decide +kernel)))
    (ok_node
    (ok_leaf (ok_iadd (show decode cX2_turn 100 = .ok (.iadd, 1) by decide +kernel)))
    (ok_leaf (ok_iload_n (show decode cX2_turn 101 = .ok (.iload_n 3, 1) by decide +kernel) rfl)))))
    (ok_node
    (ok_node
    (ok_leaf (ok_isub (show decode cX2_turn 102 = .ok (.isub, 1) by decide +kernel)))
    (ok_leaf (ok_iastore (show decode cX2_turn 103 = .ok (.iastore, 1) by decide +kernel))))
    (ok_node
    (ok_leaf (ok_aload_n (show decode cX2_turn 104 = .ok (.aload_n 0, 1) by decide +kernel) rfl))
    (ok_node
    (ok_leaf (ok_callV (C := RX2) (T := TX2) (N := 7) (Mc := M_X2_measure) (show decode cX2_turn 105 = .ok (.invokevirtual 63, 3) by decide +kernel) rfl (by decide) (by decide +kernel) rfl rfl wd_79 wd_80 wd_81 wd_58 wd_82 ⟨by decide +kernel, by decide +kernel, by decide +kernel⟩ (by decide)))
    (ok_leaf (ok_return (show decode cX2_turn 108 = .ok (.return_, 1) by decide +kernel) rfl))))))))
set_option maxRecDepth 20000 in
set_option maxHeartbeats 4000000 in
theorem ok_X2_measure {sc : List Int32} : ∀ pc, pOk mtOf 189 M_X2_measure false sc pc (cd_X2_measure pc) := by
  unfold cd_X2_measure
  exact ok_node
    (ok_node
    (ok_node
    (ok_node
    (ok_node
    (ok_node
    (ok_leaf (ok_aload_n (show decode cX2_measure 0 = .ok (.aload_n 0, 1) by decide +kernel) rfl))
    (ok_leaf (ok_getfield (show decode cX2_measure 1 = .ok (.getfield 29, 3) by decide +kernel) (Or.inl (fd_X2 (by decide) wd_54 rfl rfl)))))
    (ok_node
    (ok_leaf (ok_bipush (show decode cX2_measure 4 = .ok (.bipush 40, 2) by decide +kernel) (by decide +kernel)))
    (ok_node
    (ok_leaf (ok_min (show decode cX2_measure 6 = .ok (.invokestatic 72, 3) by decide +kernel) wd_84 wd_85 wd_86 wd_87))
    (ok_leaf (ok_iconst (show decode cX2_measure 9 = .ok (.iconst 1, 1) by decide +kernel) (by decide +kernel))))))
    (ok_node
    (ok_node
    (ok_leaf (ok_isub (show decode cX2_measure 10 = .ok (.isub, 1) by decide +kernel)))
    (ok_leaf (ok_istore_n (show decode cX2_measure 11 = .ok (.istore_n 1, 1) by decide +kernel) rfl)))
    (ok_node
    (ok_leaf (ok_iload_n (show decode cX2_measure 12 = .ok (.iload_n 1, 1) by decide +kernel) rfl))
    (ok_node
    (ok_leaf (ok_if_lt (show decode cX2_measure 13 = .ok (.ifCond .lt 109, 3) by decide +kernel) (by decide +kernel)))
    (ok_leaf (ok_aload_n (show decode cX2_measure 16 = .ok (.aload_n 0, 1) by decide +kernel) rfl))))))
    (ok_node
    (ok_node
    (ok_node
    (ok_leaf (ok_getfield (show decode cX2_measure 17 = .ok (.getfield 9, 3) by decide +kernel) (Or.inr (fdF_X2 (by decide) wd_48 rfl rfl))))
    (ok_leaf (ok_iload_n (show decode cX2_measure 20 = .ok (.iload_n 1, 1) by decide +kernel) rfl)))
    (ok_node
    (ok_leaf (ok_iaload (show decode cX2_measure 21 = .ok (.iaload, 1) by decide +kernel)))
    (ok_node
    (ok_leaf (ok_callS (Mc := M_X5_parts) (show decode cX2_measure 22 = .ok (.invokestatic 78, 3) by decide +kernel) rfl (by decide) (by decide +kernel) wd_88 wd_27 wd_28 wd_29 ⟨by decide +kernel, by decide +kernel, by decide +kernel⟩ (by decide)))
    (ok_leaf (ok_istore_n (show decode cX2_measure 25 = .ok (.istore_n 2, 1) by decide +kernel) rfl)))))
    (ok_node
    (ok_node
    (ok_leaf (ok_iconst (show decode cX2_measure 26 = .ok (.iconst 1, 1) by decide +kernel) (by decide +kernel)))
    (ok_leaf (ok_istore_n (show decode cX2_measure 27 = .ok (.istore_n 3, 1) by decide +kernel) rfl)))
    (ok_node
    (ok_leaf (ok_iconst (show decode cX2_measure 28 = .ok (.iconst 0, 1) by decide +kernel) (by decide +kernel)))
    (ok_node
    (ok_leaf (ok_istore (show decode cX2_measure 29 = .ok (.istore 4, 2) by decide +kernel)))
    (ok_leaf (ok_aload_n (show decode cX2_measure 31 = .ok (.aload_n 0, 1) by decide +kernel) rfl)))))))
    (ok_node
    (ok_node
    (ok_node
    (ok_node
    (ok_leaf (ok_getfield (show decode cX2_measure 32 = .ok (.getfield 22, 3) by decide +kernel) (Or.inr (fdF_X2 (by decide) wd_52 rfl rfl))))
    (ok_leaf (ok_iload_n (show decode cX2_measure 35 = .ok (.iload_n 1, 1) by decide +kernel) rfl)))
    (ok_node
    (ok_leaf (ok_iload_n (show decode cX2_measure 36 = .ok (.iload_n 1, 1) by decide +kernel) rfl))
    (ok_node
    (ok_leaf (ok_iastore (show decode cX2_measure 37 = .ok (.iastore, 1) by decide +kernel)))
    (ok_leaf (ok_iload_n (show decode cX2_measure 38 = .ok (.iload_n 2, 1) by decide +kernel) rfl)))))
    (ok_node
    (ok_node
    (ok_leaf (ok_if_le (show decode cX2_measure 39 = .ok (.ifCond .le 22, 3) by decide +kernel) (by decide +kernel)))
    (ok_leaf (ok_iload_n (show decode cX2_measure 42 = .ok (.iload_n 3, 1) by decide +kernel) rfl)))
    (ok_node
    (ok_leaf (ok_aload_n (show decode cX2_measure 43 = .ok (.aload_n 0, 1) by decide +kernel) rfl))
    (ok_node
    (ok_leaf (ok_iload_n (show decode cX2_measure 44 = .ok (.iload_n 1, 1) by decide +kernel) rfl))
    (ok_leaf (ok_iconst (show decode cX2_measure 45 = .ok (.iconst 1, 1) by decide +kernel) (by decide +kernel)))))))
    (ok_node
    (ok_node
    (ok_node
    (ok_leaf (ok_iadd (show decode cX2_measure 46 = .ok (.iadd, 1) by decide +kernel)))
    (ok_leaf (ok_callV (C := RX2) (T := TX2) (N := 7) (Mc := M_X2_nodesAt) (show decode cX2_measure 47 = .ok (.invokevirtual 81, 3) by decide +kernel) rfl (by decide) (by decide +kernel) rfl rfl wd_89 wd_90 wd_91 wd_58 wd_92 ⟨by decide +kernel, by decide +kernel, by decide +kernel⟩ (by decide))))
    (ok_node
    (ok_leaf (ok_iadd (show decode cX2_measure 50 = .ok (.iadd, 1) by decide +kernel)))
    (ok_node
    (ok_leaf (ok_istore_n (show decode cX2_measure 51 = .ok (.istore_n 3, 1) by decide +kernel) rfl))
    (ok_leaf (ok_aload_n (show decode cX2_measure 52 = .ok (.aload_n 0, 1) by decide +kernel) rfl)))))
    (ok_node
    (ok_node
    (ok_leaf (ok_iload_n (show decode cX2_measure 53 = .ok (.iload_n 1, 1) by decide +kernel) rfl))
    (ok_leaf (ok_iconst (show decode cX2_measure 54 = .ok (.iconst 1, 1) by decide +kernel) (by decide +kernel))))
    (ok_node
    (ok_leaf (ok_iadd (show decode cX2_measure 55 = .ok (.iadd, 1) by decide +kernel)))
    (ok_node
    (ok_leaf (ok_callV (C := RX2) (T := TX2) (N := 7) (Mc := M_X2_depthAt) (show decode cX2_measure 56 = .ok (.invokevirtual 84, 3) by decide +kernel) rfl (by decide) (by decide +kernel) rfl rfl wd_93 wd_94 wd_95 wd_58 wd_96 ⟨by decide +kernel, by decide +kernel, by decide +kernel⟩ (by decide)))
    (ok_leaf (ok_istore (show decode cX2_measure 59 = .ok (.istore 4, 2) by decide +kernel)))))))))
    (ok_node
    (ok_node
    (ok_node
    (ok_node
    (ok_node
    (ok_leaf (ok_iload_n (show decode cX2_measure 61 = .ok (.iload_n 2, 1) by decide +kernel) rfl))
    (ok_leaf (ok_iconst (show decode cX2_measure 62 = .ok (.iconst 1, 1) by decide +kernel) (by decide +kernel))))
    (ok_node
    (ok_leaf (ok_icmp_le (show decode cX2_measure 63 = .ok (.if_icmp .le 36, 3) by decide +kernel) (by decide +kernel)))
    (ok_node
    (ok_leaf (ok_aload_n (show decode cX2_measure 66 = .ok (.aload_n 0, 1) by decide +kernel) rfl))
    (ok_leaf (ok_getfield (show decode cX2_measure 67 = .ok (.getfield 22, 3) by decide +kernel) (Or.inr (fdF_X2 (by decide) wd_52 rfl rfl)))))))
    (ok_node
    (ok_node
    (ok_leaf (ok_iload_n (show decode cX2_measure 70 = .ok (.iload_n 1, 1) by decide +kernel) rfl))
    (ok_leaf (ok_iload_n (show decode cX2_measure 71 = .ok (.iload_n 1, 1) by decide +kernel) rfl)))
    (ok_node
    (ok_leaf (ok_iload_n (show decode cX2_measure 72 = .ok (.iload_n 3, 1) by decide +kernel) rfl))
    (ok_node
    (ok_leaf (ok_iadd (show decode cX2_measure 73 = .ok (.iadd, 1) by decide +kernel)))
    (ok_leaf (ok_iastore (show decode cX2_measure 74 = .ok (.iastore, 1) by decide +kernel)))))))
    (ok_node
    (ok_node
    (ok_node
    (ok_leaf (ok_iload (show decode cX2_measure 75 = .ok (.iload 4, 2) by decide +kernel)))
    (ok_leaf (ok_aload_n (show decode cX2_measure 77 = .ok (.aload_n 0, 1) by decide +kernel) rfl)))
    (ok_node
    (ok_leaf (ok_iload_n (show decode cX2_measure 78 = .ok (.iload_n 1, 1) by decide +kernel) rfl))
    (ok_node
    (ok_leaf (ok_iload_n (show decode cX2_measure 79 = .ok (.iload_n 3, 1) by decide +kernel) rfl))
    (ok_leaf (ok_iadd (show decode cX2_measure 80 = .ok (.iadd, 1) by decide +kernel))))))
    (ok_node
    (ok_node
    (ok_leaf (ok_callV (C := RX2) (T := TX2) (N := 7) (Mc := M_X2_depthAt) (show decode cX2_measure 81 = .ok (.invokevirtual 84, 3) by decide +kernel) rfl (by decide) (by decide +kernel) rfl rfl wd_93 wd_94 wd_95 wd_58 wd_96 ⟨by decide +kernel, by decide +kernel, by decide +kernel⟩ (by decide)))
    (ok_leaf (ok_max (show decode cX2_measure 84 = .ok (.invokestatic 87, 3) by decide +kernel) wd_97 wd_98 wd_86 wd_99)))
    (ok_node
    (ok_leaf (ok_istore (show decode cX2_measure 87 = .ok (.istore 4, 2) by decide +kernel)))
    (ok_node
    (ok_leaf (ok_iload_n (show decode cX2_measure 89 = .ok (.iload_n 3, 1) by decide +kernel) rfl))
    (ok_leaf (ok_aload_n (show decode cX2_measure 90 = .ok (.aload_n 0, 1) by decide +kernel) rfl)))))))
    (ok_node
    (ok_node
    (ok_node
    (ok_node
    (ok_leaf (ok_iload_n (show decode cX2_measure 91 = .ok (.iload_n 1, 1) by decide +kernel) rfl))
    (ok_leaf (ok_iload_n (show decode cX2_measure 92 = .ok (.iload_n 3, 1) by decide +kernel) rfl)))
    (ok_node
    (ok_leaf (ok_iadd (show decode cX2_measure 93 = .ok (.iadd, 1) by decide +kernel)))
    (ok_node
    (ok_leaf (ok_callV (C := RX2) (T := TX2) (N := 7) (Mc := M_X2_nodesAt) (show decode cX2_measure 94 = .ok (.invokevirtual 81, 3) by decide +kernel) rfl (by decide) (by decide +kernel) rfl rfl wd_89 wd_90 wd_91 wd_58 wd_92 ⟨by decide +kernel, by decide +kernel, by decide +kernel⟩ (by decide)))
    (ok_leaf (ok_iadd (show decode cX2_measure 97 = .ok (.iadd, 1) by decide +kernel))))))
    (ok_node
    (ok_node
    (ok_leaf (ok_istore_n (show decode cX2_measure 98 = .ok (.istore_n 3, 1) by decide +kernel) rfl))
    (ok_leaf (ok_aload_n (show decode cX2_measure 99 = .ok (.aload_n 0, 1) by decide +kernel) rfl)))
    (ok_node
    (ok_leaf (ok_getfield (show decode cX2_measure 100 = .ok (.getfield 16, 3) by decide +kernel) (Or.inr (fdF_X2 (by decide) wd_50 rfl rfl))))
    (ok_node
    (ok_leaf (ok_iload_n (show decode cX2_measure 103 = .ok (.iload_n 1, 1) by decide +kernel) rfl))
    (ok_leaf (ok_iload_n (show decode cX2_measure 104 = .ok (.iload_n 3, 1) by decide +kernel) rfl))))))
    (ok_node
    (ok_node
    (ok_node
    (ok_leaf (ok_iastore (show decode cX2_measure 105 = .ok (.iastore, 1) by decide +kernel)))
    (ok_leaf (ok_aload_n (show decode cX2_measure 106 = .ok (.aload_n 0, 1) by decide +kernel) rfl)))
    (ok_node
    (ok_leaf (ok_getfield (show decode cX2_measure 107 = .ok (.getfield 19, 3) by decide +kernel) (Or.inr (fdF_X2 (by decide) wd_51 rfl rfl))))
    (ok_node
    (ok_leaf (ok_iload_n (show decode cX2_measure 110 = .ok (.iload_n 1, 1) by decide +kernel) rfl))
    (ok_leaf (ok_iload (show decode cX2_measure 111 = .ok (.iload 4, 2) by decide +kernel))))))
    (ok_node
    (ok_node
    (ok_leaf (ok_iconst (show decode cX2_measure 113 = .ok (.iconst 1, 1) by decide +kernel) (by decide +kernel)))
    (ok_node
    (ok_leaf (ok_iadd (show decode cX2_measure 114 = .ok (.iadd, 1) by decide +kernel)))
    (ok_leaf (ok_iastore (show decode cX2_measure 115 = .ok (.iastore, 1) by decide +kernel)))))
    (ok_node
    (ok_leaf (ok_iinc (show decode cX2_measure 116 = .ok (.iinc 1 (-1), 3) by decide +kernel) (by decide +kernel)))
    (ok_node
    (ok_leaf (ok_goto (show decode cX2_measure 119 = .ok (.goto (-107), 3) by decide +kernel) (by decide +kernel)))
    (ok_leaf (ok_return (show decode cX2_measure 122 = .ok (.return_, 1) by decide +kernel) rfl))))))))
set_option maxRecDepth 20000 in
set_option maxHeartbeats 4000000 in
theorem ok_X3_init {sc : List Int32} : ∀ pc, pOk mtOf 189 M_X3_init false sc pc (cd_X3_init pc) := by
  unfold cd_X3_init
  exact ok_node
    (ok_node
    (ok_node
    (ok_node
    (ok_leaf (ok_aload_n (show decode cX3_init 0 = .ok (.aload_n 0, 1) by decide +kernel) rfl))
    (ok_node
    (ok_leaf (ok_obj (show decode cX3_init 1 = .ok (.invokespecial 5, 3) by decide +kernel) wd_100 wd_1 wd_2))
    (ok_leaf (ok_aload_n (show decode cX3_init 4 = .ok (.aload_n 0, 1) by decide +kernel) rfl))))
    (ok_node
    (ok_node
    (ok_leaf (ok_new (C := RX1) (T := TX1) (N := 4) (show decode cX3_init 5 = .ok (.new 11, 3) by decide +kernel) rfl in_X1 tyX1_ok wd_101 wd_102 wd_44 (by decide +kernel) rfl (fun _ _ => rfl)))
    (ok_leaf (ok_dup (show decode cX3_init 8 = .ok (.dup, 1) by decide +kernel))))
    (ok_node
    (ok_leaf (ok_callI (Mc := M_X1_init) (show decode cX3_init 9 = .ok (.invokespecial 13, 3) by decide +kernel) rfl (by decide) (by decide +kernel) rfl rfl wd_103 wd_104 wd_44 wd_105 ⟨by decide +kernel, by decide +kernel, by decide +kernel⟩ (by decide)))
    (ok_leaf (ok_putR (show decode cX3_init 12 = .ok (.putfield 14, 3) by decide +kernel) (Or.inr ⟨fdF_X3 (by decide) wd_106 rfl rfl, rfl, fun r hr => by cases hr; rfl⟩) (Or.inl ⟨_, rfl⟩))))))
    (ok_node
    (ok_node
    (ok_node
    (ok_leaf (ok_aload_n (show decode cX3_init 15 = .ok (.aload_n 0, 1) by decide +kernel) rfl))
    (ok_leaf (ok_bipush (show decode cX3_init 16 = .ok (.bipush 40, 2) by decide +kernel) (by decide +kernel))))
    (ok_node
    (ok_leaf (ok_newarray (show decode cX3_init 18 = .ok (.newarray .int, 2) by decide +kernel) wd_3))
    (ok_leaf (ok_putR (show decode cX3_init 20 = .ok (.putfield 18, 3) by decide +kernel) (Or.inr ⟨fdF_X3 (by decide) wd_107 rfl rfl, rfl, fun r hr => by cases hr; rfl⟩) (Or.inr ⟨_, rfl⟩)))))
    (ok_node
    (ok_node
    (ok_leaf (ok_aload_n (show decode cX3_init 23 = .ok (.aload_n 0, 1) by decide +kernel) rfl))
    (ok_leaf (ok_bipush (show decode cX3_init 24 = .ok (.bipush 40, 2) by decide +kernel) (by decide +kernel))))
    (ok_node
    (ok_leaf (ok_newarray (show decode cX3_init 26 = .ok (.newarray .int, 2) by decide +kernel) wd_3))
    (ok_leaf (ok_putR (show decode cX3_init 28 = .ok (.putfield 22, 3) by decide +kernel) (Or.inr ⟨fdF_X3 (by decide) wd_108 rfl rfl, rfl, fun r hr => by cases hr; rfl⟩) (Or.inr ⟨_, rfl⟩)))))))
    (ok_node
    (ok_node
    (ok_node
    (ok_node
    (ok_leaf (ok_aload_n (show decode cX3_init 31 = .ok (.aload_n 0, 1) by decide +kernel) rfl))
    (ok_leaf (ok_bipush (show decode cX3_init 32 = .ok (.bipush 40, 2) by decide +kernel) (by decide +kernel))))
    (ok_node
    (ok_leaf (ok_newarray (show decode cX3_init 34 = .ok (.newarray .int, 2) by decide +kernel) wd_3))
    (ok_leaf (ok_putR (show decode cX3_init 36 = .ok (.putfield 25, 3) by decide +kernel) (Or.inr ⟨fdF_X3 (by decide) wd_109 rfl rfl, rfl, fun r hr => by cases hr; rfl⟩) (Or.inr ⟨_, rfl⟩)))))
    (ok_node
    (ok_node
    (ok_leaf (ok_aload_n (show decode cX3_init 39 = .ok (.aload_n 0, 1) by decide +kernel) rfl))
    (ok_leaf (ok_bipush (show decode cX3_init 40 = .ok (.bipush 40, 2) by decide +kernel) (by decide +kernel))))
    (ok_node
    (ok_leaf (ok_newarray (show decode cX3_init 42 = .ok (.newarray .int, 2) by decide +kernel) wd_3))
    (ok_leaf (ok_putR (show decode cX3_init 44 = .ok (.putfield 28, 3) by decide +kernel) (Or.inr ⟨fdF_X3 (by decide) wd_110 rfl rfl, rfl, fun r hr => by cases hr; rfl⟩) (Or.inr ⟨_, rfl⟩))))))
    (ok_node
    (ok_node
    (ok_node
    (ok_leaf (ok_aload_n (show decode cX3_init 47 = .ok (.aload_n 0, 1) by decide +kernel) rfl))
    (ok_leaf (ok_sipush (show decode cX3_init 48 = .ok (.sipush 8000, 3) by decide +kernel) (by decide +kernel))))
    (ok_node
    (ok_leaf (ok_newarray (show decode cX3_init 51 = .ok (.newarray .int, 2) by decide +kernel) wd_3))
    (ok_leaf (ok_putR (show decode cX3_init 53 = .ok (.putfield 31, 3) by decide +kernel) (Or.inr ⟨fdF_X3 (by decide) wd_111 rfl rfl, rfl, fun r hr => by cases hr; rfl⟩) (Or.inr ⟨_, rfl⟩)))))
    (ok_node
    (ok_node
    (ok_leaf (ok_aload_n (show decode cX3_init 56 = .ok (.aload_n 0, 1) by decide +kernel) rfl))
    (ok_leaf (ok_aload_n (show decode cX3_init 57 = .ok (.aload_n 1, 1) by decide +kernel) rfl)))
    (ok_node
    (ok_leaf (ok_putR (show decode cX3_init 58 = .ok (.putfield 34, 3) by decide +kernel) (Or.inr ⟨fdF_X3 (by decide) wd_112 rfl rfl, rfl, fun r hr => by cases hr; rfl⟩) (Or.inl ⟨_, rfl⟩)))
    (ok_leaf (ok_return (show decode cX3_init 61 = .ok (.return_, 1) by decide +kernel) rfl))))))
set_option maxRecDepth 20000 in
set_option maxHeartbeats 4000000 in
theorem ok_X3_prepare {sc : List Int32} : ∀ pc, pOk mtOf 189 M_X3_prepare false sc pc (cd_X3_prepare pc) := by
  unfold cd_X3_prepare
  exact ok_node
    (ok_node
    (ok_node
    (ok_node
    (ok_leaf (ok_iconst (show decode cX3_prepare 0 = .ok (.iconst 0, 1) by decide +kernel) (by decide +kernel)))
    (ok_node
    (ok_leaf (ok_istore_n (show decode cX3_prepare 1 = .ok (.istore_n 1, 1) by decide +kernel) rfl))
    (ok_leaf (ok_iload_n (show decode cX3_prepare 2 = .ok (.iload_n 1, 1) by decide +kernel) rfl))))
    (ok_node
    (ok_leaf (ok_bipush (show decode cX3_prepare 3 = .ok (.bipush 40, 2) by decide +kernel) (by decide +kernel)))
    (ok_node
    (ok_leaf (ok_icmp_ge (show decode cX3_prepare 5 = .ok (.if_icmp .ge 40, 3) by decide +kernel) (by decide +kernel)))
    (ok_leaf (ok_aload_n (show decode cX3_prepare 8 = .ok (.aload_n 0, 1) by decide +kernel) rfl)))))
    (ok_node
    (ok_node
    (ok_leaf (ok_getfield (show decode cX3_prepare 9 = .ok (.getfield 18, 3) by decide +kernel) (Or.inr (fdF_X3 (by decide) wd_107 rfl rfl))))
    (ok_node
    (ok_leaf (ok_iload_n (show decode cX3_prepare 12 = .ok (.iload_n 1, 1) by decide +kernel) rfl))
    (ok_leaf (ok_aload_n (show decode cX3_prepare 13 = .ok (.aload_n 0, 1) by decide +kernel) rfl))))
    (ok_node
    (ok_leaf (ok_getfield (show decode cX3_prepare 14 = .ok (.getfield 34, 3) by decide +kernel) (Or.inr (fdF_X3 (by decide) wd_112 rfl rfl))))
    (ok_node
    (ok_leaf (ok_iload_n (show decode cX3_prepare 17 = .ok (.iload_n 1, 1) by decide +kernel) rfl))
    (ok_leaf (ok_callV (C := RX2) (T := TX2) (N := 7) (Mc := M_X2_letterAt) (show decode cX3_prepare 18 = .ok (.invokevirtual 38, 3) by decide +kernel) rfl (by decide) (by decide +kernel) rfl rfl wd_113 wd_68 wd_69 wd_58 wd_70 ⟨by decide +kernel, by decide +kernel, by decide +kernel⟩ (by decide)))))))
    (ok_node
    (ok_node
    (ok_node
    (ok_leaf (ok_callS (Mc := M_X5_kind) (show decode cX3_prepare 21 = .ok (.invokestatic 42, 3) by decide +kernel) rfl (by decide) (by decide +kernel) wd_114 wd_36 wd_28 wd_37 ⟨by decide +kernel, by decide +kernel, by decide +kernel⟩ (by decide)))
    (ok_node
    (ok_leaf (ok_iastore (show decode cX3_prepare 24 = .ok (.iastore, 1) by decide +kernel)))
    (ok_leaf (ok_aload_n (show decode cX3_prepare 25 = .ok (.aload_n 0, 1) by decide +kernel) rfl))))
    (ok_node
    (ok_leaf (ok_getfield (show decode cX3_prepare 26 = .ok (.getfield 22, 3) by decide +kernel) (Or.inr (fdF_X3 (by decide) wd_108 rfl rfl))))
    (ok_node
    (ok_leaf (ok_iload_n (show decode cX3_prepare 29 = .ok (.iload_n 1, 1) by decide +kernel) rfl))
    (ok_leaf (ok_aload_n (show decode cX3_prepare 30 = .ok (.aload_n 0, 1) by decide +kernel) rfl)))))
    (ok_node
    (ok_node
    (ok_leaf (ok_getfield (show decode cX3_prepare 31 = .ok (.getfield 34, 3) by decide +kernel) (Or.inr (fdF_X3 (by decide) wd_112 rfl rfl))))
    (ok_node
    (ok_leaf (ok_iload_n (show decode cX3_prepare 34 = .ok (.iload_n 1, 1) by decide +kernel) rfl))
    (ok_leaf (ok_callV (C := RX2) (T := TX2) (N := 7) (Mc := M_X2_secondOf) (show decode cX3_prepare 35 = .ok (.invokevirtual 47, 3) by decide +kernel) rfl (by decide) (by decide +kernel) rfl rfl wd_115 wd_116 wd_117 wd_58 wd_118 ⟨by decide +kernel, by decide +kernel, by decide +kernel⟩ (by decide)))))
    (ok_node
    (ok_node
    (ok_leaf (ok_iastore (show decode cX3_prepare 38 = .ok (.iastore, 1) by decide +kernel)))
    (ok_leaf (ok_iinc (show decode cX3_prepare 39 = .ok (.iinc 1 1, 3) by decide +kernel) (by decide +kernel))))
    (ok_node
    (ok_leaf (ok_goto (show decode cX3_prepare 42 = .ok (.goto (-40), 3) by decide +kernel) (by decide +kernel)))
    (ok_leaf (ok_return (show decode cX3_prepare 45 = .ok (.return_, 1) by decide +kernel) rfl))))))
set_option maxRecDepth 20000 in
set_option maxHeartbeats 4000000 in
theorem ok_X3_take {sc : List Int32} : ∀ pc, pOk mtOf 189 M_X3_take false sc pc (cd_X3_take pc) := by
  unfold cd_X3_take
  exact ok_node
    (ok_node
    (ok_leaf (ok_aload_n (show decode cX3_take 0 = .ok (.aload_n 0, 1) by decide +kernel) rfl))
    (ok_node
    (ok_leaf (ok_getfield (show decode cX3_take 1 = .ok (.getfield 14, 3) by decide +kernel) (Or.inr (fdF_X3 (by decide) wd_106 rfl rfl))))
    (ok_leaf (ok_iload_n (show decode cX3_take 4 = .ok (.iload_n 1, 1) by decide +kernel) rfl))))
    (ok_node
    (ok_leaf (ok_iload_n (show decode cX3_take 5 = .ok (.iload_n 2, 1) by decide +kernel) rfl))
    (ok_node
    (ok_leaf (ok_callV (C := RX1) (T := TX1) (N := 4) (Mc := M_X1_take) (show decode cX3_take 6 = .ok (.invokevirtual 50, 3) by decide +kernel) rfl (by decide) (by decide +kernel) rfl rfl wd_119 wd_42 wd_43 wd_44 wd_45 ⟨by decide +kernel, by decide +kernel, by decide +kernel⟩ (by decide)))
    (ok_leaf (ok_return (show decode cX3_take 9 = .ok (.return_, 1) by decide +kernel) rfl))))
set_option maxRecDepth 20000 in
set_option maxHeartbeats 4000000 in
theorem ok_X3_word {sc : List Int32} : ∀ pc, pOk mtOf 189 M_X3_word false sc pc (cd_X3_word pc) := by
  unfold cd_X3_word
  exact ok_node
    (ok_node
    (ok_leaf (ok_aload_n (show decode cX3_word 0 = .ok (.aload_n 0, 1) by decide +kernel) rfl))
    (ok_leaf (ok_getfield (show decode cX3_word 1 = .ok (.getfield 14, 3) by decide +kernel) (Or.inr (fdF_X3 (by decide) wd_106 rfl rfl)))))
    (ok_node
    (ok_leaf (ok_iload_n (show decode cX3_word 4 = .ok (.iload_n 1, 1) by decide +kernel) rfl))
    (ok_node
    (ok_leaf (ok_callV (C := RX1) (T := TX1) (N := 4) (Mc := M_X1_word) (show decode cX3_word 5 = .ok (.invokevirtual 54, 3) by decide +kernel) rfl (by decide) (by decide +kernel) rfl rfl wd_120 wd_121 wd_122 wd_44 wd_123 ⟨by decide +kernel, by decide +kernel, by decide +kernel⟩ (by decide)))
    (ok_leaf (ok_ireturn (show decode cX3_word 8 = .ok (.ireturn, 1) by decide +kernel) rfl))))
set_option maxRecDepth 20000 in
set_option maxHeartbeats 4000000 in
theorem ok_X3_sizeAt {sc : List Int32} : ∀ pc, pOk mtOf 189 M_X3_sizeAt false sc pc (cd_X3_sizeAt pc) := by
  unfold cd_X3_sizeAt
  exact ok_node
    (ok_node
    (ok_node
    (ok_leaf (ok_iload_n (show decode cX3_sizeAt 0 = .ok (.iload_n 1, 1) by decide +kernel) rfl))
    (ok_node
    (ok_leaf (ok_if_lt (show decode cX3_sizeAt 1 = .ok (.ifCond .lt 21, 3) by decide +kernel) (by decide +kernel)))
    (ok_leaf (ok_iload_n (show decode cX3_sizeAt 4 = .ok (.iload_n 1, 1) by decide +kernel) rfl))))
    (ok_node
    (ok_node
    (ok_leaf (ok_aload_n (show decode cX3_sizeAt 5 = .ok (.aload_n 0, 1) by decide +kernel) rfl))
    (ok_leaf (ok_getfield (show decode cX3_sizeAt 6 = .ok (.getfield 25, 3) by decide +kernel) (Or.inr (fdF_X3 (by decide) wd_109 rfl rfl)))))
    (ok_node
    (ok_leaf (ok_arraylength (show decode cX3_sizeAt 9 = .ok (.arraylength, 1) by decide +kernel)))
    (ok_leaf (ok_icmp_ge (show decode cX3_sizeAt 10 = .ok (.if_icmp .ge 12, 3) by decide +kernel) (by decide +kernel))))))
    (ok_node
    (ok_node
    (ok_leaf (ok_aload_n (show decode cX3_sizeAt 13 = .ok (.aload_n 0, 1) by decide +kernel) rfl))
    (ok_node
    (ok_leaf (ok_getfield (show decode cX3_sizeAt 14 = .ok (.getfield 25, 3) by decide +kernel) (Or.inr (fdF_X3 (by decide) wd_109 rfl rfl))))
    (ok_leaf (ok_iload_n (show decode cX3_sizeAt 17 = .ok (.iload_n 1, 1) by decide +kernel) rfl))))
    (ok_node
    (ok_node
    (ok_leaf (ok_iaload (show decode cX3_sizeAt 18 = .ok (.iaload, 1) by decide +kernel)))
    (ok_leaf (ok_goto (show decode cX3_sizeAt 19 = .ok (.goto 4, 3) by decide +kernel) (by decide +kernel))))
    (ok_node
    (ok_leaf (ok_iconst (show decode cX3_sizeAt 22 = .ok (.iconst 0, 1) by decide +kernel) (by decide +kernel)))
    (ok_leaf (ok_ireturn (show decode cX3_sizeAt 23 = .ok (.ireturn, 1) by decide +kernel) rfl)))))
set_option maxRecDepth 20000 in
set_option maxHeartbeats 4000000 in
theorem ok_X3_fits {sc : List Int32} : ∀ pc, pOk mtOf 189 M_X3_fits false sc pc (cd_X3_fits pc) := by
  unfold cd_X3_fits
  exact ok_node
    (ok_node
    (ok_node
    (ok_leaf (ok_aload_n (show decode cX3_fits 0 = .ok (.aload_n 0, 1) by decide +kernel) rfl))
    (ok_node
    (ok_leaf (ok_iload_n (show decode cX3_fits 1 = .ok (.iload_n 1, 1) by decide +kernel) rfl))
    (ok_leaf (ok_callV (C := RX3) (T := TX3) (N := 8) (Mc := M_X3_measure) (show decode cX3_fits 2 = .ok (.invokevirtual 57, 3) by decide +kernel) rfl (by decide) (by decide +kernel) rfl rfl wd_124 wd_125 wd_126 wd_127 wd_128 ⟨by decide +kernel, by decide +kernel, by decide +kernel⟩ (by decide)))))
    (ok_node
    (ok_leaf (ok_aload_n (show decode cX3_fits 5 = .ok (.aload_n 0, 1) by decide +kernel) rfl))
    (ok_node
    (ok_leaf (ok_iload_n (show decode cX3_fits 6 = .ok (.iload_n 1, 1) by decide +kernel) rfl))
    (ok_leaf (ok_callV (C := RX3) (T := TX3) (N := 8) (Mc := M_X3_sizeAt) (show decode cX3_fits 7 = .ok (.invokevirtual 61, 3) by decide +kernel) rfl (by decide) (by decide +kernel) rfl rfl wd_129 wd_130 wd_131 wd_127 wd_132 ⟨by decide +kernel, by decide +kernel, by decide +kernel⟩ (by decide))))))
    (ok_node
    (ok_node
    (ok_leaf (ok_sipush (show decode cX3_fits 10 = .ok (.sipush 200, 3) by decide +kernel) (by decide +kernel)))
    (ok_node
    (ok_leaf (ok_icmp_gt (show decode cX3_fits 13 = .ok (.if_icmp .gt 7, 3) by decide +kernel) (by decide +kernel)))
    (ok_leaf (ok_iconst (show decode cX3_fits 16 = .ok (.iconst 1, 1) by decide +kernel) (by decide +kernel)))))
    (ok_node
    (ok_leaf (ok_goto (show decode cX3_fits 17 = .ok (.goto 4, 3) by decide +kernel) (by decide +kernel)))
    (ok_node
    (ok_leaf (ok_iconst (show decode cX3_fits 20 = .ok (.iconst 0, 1) by decide +kernel) (by decide +kernel)))
    (ok_leaf (ok_zreturn (show decode cX3_fits 21 = .ok (.ireturn, 1) by decide +kernel) rfl)))))
set_option maxRecDepth 20000 in
set_option maxHeartbeats 4000000 in
theorem ok_X3_agree {sc : List Int32} : ∀ pc, pOk mtOf 189 M_X3_agree false sc pc (cd_X3_agree pc) := by
  unfold cd_X3_agree
  exact ok_node
    (ok_node
    (ok_node
    (ok_node
    (ok_node
    (ok_leaf (ok_aload_n (show decode cX3_agree 0 = .ok (.aload_n 0, 1) by decide +kernel) rfl))
    (ok_node
    (ok_leaf (ok_iload_n (show decode cX3_agree 1 = .ok (.iload_n 1, 1) by decide +kernel) rfl))
    (ok_leaf (ok_callV (C := RX3) (T := TX3) (N := 8) (Mc := M_X3_measure) (show decode cX3_agree 2 = .ok (.invokevirtual 57, 3) by decide +kernel) rfl (by decide) (by decide +kernel) rfl rfl wd_124 wd_125 wd_126 wd_127 wd_128 ⟨by decide +kernel, by decide +kernel, by decide +kernel⟩ (by decide)))))
    (ok_node
    (ok_leaf (ok_aload_n (show decode cX3_agree 5 = .ok (.aload_n 0, 1) by decide +kernel) rfl))
    (ok_node
    (ok_leaf (ok_iload_n (show decode cX3_agree 6 = .ok (.iload_n 2, 1) by decide +kernel) rfl))
    (ok_leaf (ok_callV (C := RX3) (T := TX3) (N := 8) (Mc := M_X3_measure) (show decode cX3_agree 7 = .ok (.invokevirtual 57, 3) by decide +kernel) rfl (by decide) (by decide +kernel) rfl rfl wd_124 wd_125 wd_126 wd_127 wd_128 ⟨by decide +kernel, by decide +kernel, by decide +kernel⟩ (by decide))))))
    (ok_node
    (ok_node
    (ok_leaf (ok_aload_n (show decode cX3_agree 10 = .ok (.aload_n 0, 1) by decide +kernel) rfl))
    (ok_node
    (ok_leaf (ok_iload_n (show decode cX3_agree 11 = .ok (.iload_n 1, 1) by decide +kernel) rfl))
    (ok_leaf (ok_callV (C := RX3) (T := TX3) (N := 8) (Mc := M_X3_sizeAt) (show decode cX3_agree 12 = .ok (.invokevirtual 61, 3) by decide +kernel) rfl (by decide) (by decide +kernel) rfl rfl wd_129 wd_130 wd_131 wd_127 wd_132 ⟨by decide +kernel, by decide +kernel, by decide +kernel⟩ (by decide)))))
    (ok_node
    (ok_leaf (ok_sipush (show decode cX3_agree 15 = .ok (.sipush 200, 3) by decide +kernel) (by decide +kernel)))
    (ok_node
    (ok_leaf (ok_icmp_gt (show decode cX3_agree 18 = .ok (.if_icmp .gt 16, 3) by decide +kernel) (by decide +kernel)))
    (ok_leaf (ok_aload_n (show decode cX3_agree 21 = .ok (.aload_n 0, 1) by decide +kernel) rfl))))))
    (ok_node
    (ok_node
    (ok_node
    (ok_leaf (ok_iload_n (show decode cX3_agree 22 = .ok (.iload_n 1, 1) by decide +kernel) rfl))
    (ok_node
    (ok_leaf (ok_callV (C := RX3) (T := TX3) (N := 8) (Mc := M_X3_sizeAt) (show decode cX3_agree 23 = .ok (.invokevirtual 61, 3) by decide +kernel) rfl (by decide) (by decide +kernel) rfl rfl wd_129 wd_130 wd_131 wd_127 wd_132 ⟨by decide +kernel, by decide +kernel, by decide +kernel⟩ (by decide)))
    (ok_leaf (ok_aload_n (show decode cX3_agree 26 = .ok (.aload_n 0, 1) by decide +kernel) rfl))))
    (ok_node
    (ok_leaf (ok_iload_n (show decode cX3_agree 27 = .ok (.iload_n 2, 1) by decide +kernel) rfl))
    (ok_node
    (ok_leaf (ok_callV (C := RX3) (T := TX3) (N := 8) (Mc := M_X3_sizeAt) (show decode cX3_agree 28 = .ok (.invokevirtual 61, 3) by decide +kernel) rfl (by decide) (by decide +kernel) rfl rfl wd_129 wd_130 wd_131 wd_127 wd_132 ⟨by decide +kernel, by decide +kernel, by decide +kernel⟩ (by decide)))
    (ok_leaf (ok_icmp_eq (show decode cX3_agree 31 = .ok (.if_icmp .eq 5, 3) by decide +kernel) (by decide +kernel))))))
    (ok_node
    (ok_node
    (ok_leaf (ok_iconst (show decode cX3_agree 34 = .ok (.iconst 0, 1) by decide +kernel) (by decide +kernel)))
    (ok_node
    (ok_leaf (ok_zreturn (show decode cX3_agree 35 = .ok (.ireturn, 1) by decide +kernel) rfl))
    (ok_leaf (ok_aload_n (show decode cX3_agree 36 = .ok (.aload_n 0, 1) by decide +kernel) rfl))))
    (ok_node
    (ok_node
    (ok_leaf (ok_iconst (show decode cX3_agree 37 = .ok (.iconst 0, 1) by decide +kernel) (by decide +kernel)))
    (ok_leaf (ok_putI (show decode cX3_agree 38 = .ok (.putfield 64, 3) by decide +kernel) (Or.inl (fd_X3 (by decide) wd_133 rfl rfl)) rfl)))
    (ok_node
    (ok_leaf (ok_aload_n (show decode cX3_agree 41 = .ok (.aload_n 0, 1) by decide +kernel) rfl))
    (ok_leaf (ok_iload_n (show decode cX3_agree 42 = .ok (.iload_n 1, 1) by decide +kernel) rfl)))))))
    (ok_node
    (ok_node
    (ok_node
    (ok_node
    (ok_leaf (ok_callV (C := RX3) (T := TX3) (N := 8) (Mc := M_X3_build) (show decode cX3_agree 43 = .ok (.invokevirtual 68, 3) by decide +kernel) rfl (by decide) (by decide +kernel) rfl rfl wd_134 wd_135 wd_136 wd_127 wd_137 ⟨by decide +kernel, by decide +kernel, by decide +kernel⟩ (by decide)))
    (ok_node
    (ok_leaf (ok_aload_n (show decode cX3_agree 46 = .ok (.aload_n 0, 1) by decide +kernel) rfl))
    (ok_leaf (ok_iload_n (show decode cX3_agree 47 = .ok (.iload_n 2, 1) by decide +kernel) rfl))))
    (ok_node
    (ok_leaf (ok_callV (C := RX3) (T := TX3) (N := 8) (Mc := M_X3_build) (show decode cX3_agree 48 = .ok (.invokevirtual 68, 3) by decide +kernel) rfl (by decide) (by decide +kernel) rfl rfl wd_134 wd_135 wd_136 wd_127 wd_137 ⟨by decide +kernel, by decide +kernel, by decide +kernel⟩ (by decide)))
    (ok_node
    (ok_leaf (ok_iconst (show decode cX3_agree 51 = .ok (.iconst 0, 1) by decide +kernel) (by decide +kernel)))
    (ok_leaf (ok_istore_n (show decode cX3_agree 52 = .ok (.istore_n 3, 1) by decide +kernel) rfl)))))
    (ok_node
    (ok_node
    (ok_leaf (ok_iload_n (show decode cX3_agree 53 = .ok (.iload_n 3, 1) by decide +kernel) rfl))
    (ok_node
    (ok_leaf (ok_aload_n (show decode cX3_agree 54 = .ok (.aload_n 0, 1) by decide +kernel) rfl))
    (ok_leaf (ok_iload_n (show decode cX3_agree 55 = .ok (.iload_n 1, 1) by decide +kernel) rfl))))
    (ok_node
    (ok_node
    (ok_leaf (ok_callV (C := RX3) (T := TX3) (N := 8) (Mc := M_X3_sizeAt) (show decode cX3_agree 56 = .ok (.invokevirtual 61, 3) by decide +kernel) rfl (by decide) (by decide +kernel) rfl rfl wd_129 wd_130 wd_131 wd_127 wd_132 ⟨by decide +kernel, by decide +kernel, by decide +kernel⟩ (by decide)))
    (ok_leaf (ok_icmp_ge (show decode cX3_agree 59 = .ok (.if_icmp .ge 26, 3) by decide +kernel) (by decide +kernel))))
    (ok_node
    (ok_leaf (ok_aload_n (show decode cX3_agree 62 = .ok (.aload_n 0, 1) by decide +kernel) rfl))
    (ok_leaf (ok_iload_n (show decode cX3_agree 63 = .ok (.iload_n 1, 1) by decide +kernel) rfl))))))
    (ok_node
    (ok_node
    (ok_node
    (ok_leaf (ok_iload_n (show decode cX3_agree 64 = .ok (.iload_n 3, 1) by decide +kernel) rfl))
    (ok_node
    (ok_leaf (ok_callV (C := RX3) (T := TX3) (N := 8) (Mc := M_X3_letterOf) (show decode cX3_agree 65 = .ok (.invokevirtual 71, 3) by decide +kernel) rfl (by decide) (by decide +kernel) rfl rfl wd_138 wd_139 wd_140 wd_127 wd_141 ⟨by decide +kernel, by decide +kernel, by decide +kernel⟩ (by decide)))
    (ok_leaf (ok_aload_n (show decode cX3_agree 68 = .ok (.aload_n 0, 1) by decide +kernel) rfl))))
    (ok_node
    (ok_leaf (ok_iload_n (show decode cX3_agree 69 = .ok (.iload_n 2, 1) by decide +kernel) rfl))
    (ok_node
    (ok_leaf (ok_iload_n (show decode cX3_agree 70 = .ok (.iload_n 3, 1) by decide +kernel) rfl))
    (ok_leaf (ok_callV (C := RX3) (T := TX3) (N := 8) (Mc := M_X3_letterOf) (show decode cX3_agree 71 = .ok (.invokevirtual 71, 3) by decide +kernel) rfl (by decide) (by decide +kernel) rfl rfl wd_138 wd_139 wd_140 wd_127 wd_141 ⟨by decide +kernel, by decide +kernel, by decide +kernel⟩ (by decide))))))
    (ok_node
    (ok_node
    (ok_leaf (ok_icmp_eq (show decode cX3_agree 74 = .ok (.if_icmp .eq 5, 3) by decide +kernel) (by decide +kernel)))
    (ok_node
    (ok_leaf (ok_iconst (show decode cX3_agree 77 = .ok (.iconst 0, 1) by decide +kernel) (by decide +kernel)))
    (ok_leaf (ok_zreturn (show decode cX3_agree 78 = .ok (.ireturn, 1) by decide +kernel) rfl))))
    (ok_node
    (ok_node
    (ok_leaf (ok_iinc (show decode cX3_agree 79 = .ok (.iinc 3 1, 3) by decide +kernel) (by decide +kernel)))
    (ok_leaf (ok_goto (show decode cX3_agree 82 = .ok (.goto (-29), 3) by decide +kernel) (by decide +kernel))))
    (ok_node
    (ok_leaf (ok_iconst (show decode cX3_agree 85 = .ok (.iconst 1, 1) by decide +kernel) (by decide +kernel)))
    (ok_leaf (ok_zreturn (show decode cX3_agree 86 = .ok (.ireturn, 1) by decide +kernel) rfl)))))))
set_option maxRecDepth 20000 in
set_option maxHeartbeats 4000000 in
theorem ok_X3_grow {sc : List Int32} : ∀ pc, pOk mtOf 189 M_X3_grow false sc pc (cd_X3_grow pc) := by
  unfold cd_X3_grow
  exact ok_node
    (ok_node
    (ok_node
    (ok_leaf (ok_aload_n (show decode cX3_grow 0 = .ok (.aload_n 0, 1) by decide +kernel) rfl))
    (ok_leaf (ok_iconst (show decode cX3_grow 1 = .ok (.iconst 0, 1) by decide +kernel) (by decide +kernel))))
    (ok_node
    (ok_leaf (ok_putI (show decode cX3_grow 2 = .ok (.putfield 64, 3) by decide +kernel) (Or.inl (fd_X3 (by decide) wd_133 rfl rfl)) rfl))
    (ok_node
    (ok_leaf (ok_aload_n (show decode cX3_grow 5 = .ok (.aload_n 0, 1) by decide +kernel) rfl))
    (ok_leaf (ok_iload_n (show decode cX3_grow 6 = .ok (.iload_n 1, 1) by decide +kernel) rfl)))))
    (ok_node
    (ok_node
    (ok_leaf (ok_callV (C := RX3) (T := TX3) (N := 8) (Mc := M_X3_measure) (show decode cX3_grow 7 = .ok (.invokevirtual 57, 3) by decide +kernel) rfl (by decide) (by decide +kernel) rfl rfl wd_124 wd_125 wd_126 wd_127 wd_128 ⟨by decide +kernel, by decide +kernel, by decide +kernel⟩ (by decide)))
    (ok_leaf (ok_aload_n (show decode cX3_grow 10 = .ok (.aload_n 0, 1) by decide +kernel) rfl)))
    (ok_node
    (ok_leaf (ok_iload_n (show decode cX3_grow 11 = .ok (.iload_n 1, 1) by decide +kernel) rfl))
    (ok_node
    (ok_leaf (ok_callV (C := RX3) (T := TX3) (N := 8) (Mc := M_X3_build) (show decode cX3_grow 12 = .ok (.invokevirtual 68, 3) by decide +kernel) rfl (by decide) (by decide +kernel) rfl rfl wd_134 wd_135 wd_136 wd_127 wd_137 ⟨by decide +kernel, by decide +kernel, by decide +kernel⟩ (by decide)))
    (ok_leaf (ok_return (show decode cX3_grow 15 = .ok (.return_, 1) by decide +kernel) rfl)))))
set_option maxRecDepth 20000 in
set_option maxHeartbeats 4000000 in
theorem ok_X3_letterOf {sc : List Int32} : ∀ pc, pOk mtOf 189 M_X3_letterOf false sc pc (cd_X3_letterOf pc) := by
  unfold cd_X3_letterOf
  exact ok_node
    (ok_node
    (ok_node
    (ok_node
    (ok_leaf (ok_iload_n (show decode cX3_letterOf 0 = .ok (.iload_n 1, 1) by decide +kernel) rfl))
    (ok_node
    (ok_leaf (ok_if_lt (show decode cX3_letterOf 1 = .ok (.ifCond .lt 12, 3) by decide +kernel) (by decide +kernel)))
    (ok_leaf (ok_iload_n (show decode cX3_letterOf 4 = .ok (.iload_n 1, 1) by decide +kernel) rfl))))
    (ok_node
    (ok_node
    (ok_leaf (ok_aload_n (show decode cX3_letterOf 5 = .ok (.aload_n 0, 1) by decide +kernel) rfl))
    (ok_leaf (ok_getfield (show decode cX3_letterOf 6 = .ok (.getfield 28, 3) by decide +kernel) (Or.inr (fdF_X3 (by decide) wd_110 rfl rfl)))))
    (ok_node
    (ok_leaf (ok_arraylength (show decode cX3_letterOf 9 = .ok (.arraylength, 1) by decide +kernel)))
    (ok_leaf (ok_icmp_lt (show decode cX3_letterOf 10 = .ok (.if_icmp .lt 5, 3) by decide +kernel) (by decide +kernel))))))
    (ok_node
    (ok_node
    (ok_leaf (ok_iconst (show decode cX3_letterOf 13 = .ok (.iconst 0, 1) by decide +kernel) (by decide +kernel)))
    (ok_node
    (ok_leaf (ok_ireturn (show decode cX3_letterOf 14 = .ok (.ireturn, 1) by decide +kernel) rfl))
    (ok_leaf (ok_aload_n (show decode cX3_letterOf 15 = .ok (.aload_n 0, 1) by decide +kernel) rfl))))
    (ok_node
    (ok_node
    (ok_leaf (ok_getfield (show decode cX3_letterOf 16 = .ok (.getfield 28, 3) by decide +kernel) (Or.inr (fdF_X3 (by decide) wd_110 rfl rfl))))
    (ok_leaf (ok_iload_n (show decode cX3_letterOf 19 = .ok (.iload_n 1, 1) by decide +kernel) rfl)))
    (ok_node
    (ok_leaf (ok_iaload (show decode cX3_letterOf 20 = .ok (.iaload, 1) by decide +kernel)))
    (ok_leaf (ok_iload_n (show decode cX3_letterOf 21 = .ok (.iload_n 2, 1) by decide +kernel) rfl))))))
    (ok_node
    (ok_node
    (ok_node
    (ok_leaf (ok_iadd (show decode cX3_letterOf 22 = .ok (.iadd, 1) by decide +kernel)))
    (ok_node
    (ok_leaf (ok_istore_n (show decode cX3_letterOf 23 = .ok (.istore_n 3, 1) by decide +kernel) rfl))
    (ok_leaf (ok_iload_n (show decode cX3_letterOf 24 = .ok (.iload_n 3, 1) by decide +kernel) rfl))))
    (ok_node
    (ok_node
    (ok_leaf (ok_if_lt (show decode cX3_letterOf 25 = .ok (.ifCond .lt 19, 3) by decide +kernel) (by decide +kernel)))
    (ok_leaf (ok_iload_n (show decode cX3_letterOf 28 = .ok (.iload_n 3, 1) by decide +kernel) rfl)))
    (ok_node
    (ok_leaf (ok_sipush (show decode cX3_letterOf 29 = .ok (.sipush 8000, 3) by decide +kernel) (by decide +kernel)))
    (ok_leaf (ok_icmp_ge (show decode cX3_letterOf 32 = .ok (.if_icmp .ge 12, 3) by decide +kernel) (by decide +kernel))))))
    (ok_node
    (ok_node
    (ok_leaf (ok_aload_n (show decode cX3_letterOf 35 = .ok (.aload_n 0, 1) by decide +kernel) rfl))
    (ok_node
    (ok_leaf (ok_getfield (show decode cX3_letterOf 36 = .ok (.getfield 31, 3) by decide +kernel) (Or.inr (fdF_X3 (by decide) wd_111 rfl rfl))))
    (ok_leaf (ok_iload_n (show decode cX3_letterOf 39 = .ok (.iload_n 3, 1) by decide +kernel) rfl))))
    (ok_node
    (ok_node
    (ok_leaf (ok_iaload (show decode cX3_letterOf 40 = .ok (.iaload, 1) by decide +kernel)))
    (ok_leaf (ok_goto (show decode cX3_letterOf 41 = .ok (.goto 4, 3) by decide +kernel) (by decide +kernel))))
    (ok_node
    (ok_leaf (ok_iconst (show decode cX3_letterOf 44 = .ok (.iconst 0, 1) by decide +kernel) (by decide +kernel)))
    (ok_leaf (ok_ireturn (show decode cX3_letterOf 45 = .ok (.ireturn, 1) by decide +kernel) rfl))))))
set_option maxRecDepth 20000 in
set_option maxHeartbeats 4000000 in
theorem ok_X3_measure {sc : List Int32} : ∀ pc, pOk mtOf 189 M_X3_measure false sc pc (cd_X3_measure pc) := by
  unfold cd_X3_measure
  exact ok_node
    (ok_node
    (ok_node
    (ok_node
    (ok_node
    (ok_leaf (ok_iload_n (show decode cX3_measure 0 = .ok (.iload_n 1, 1) by decide +kernel) rfl))
    (ok_node
    (ok_leaf (ok_aload_n (show decode cX3_measure 1 = .ok (.aload_n 0, 1) by decide +kernel) rfl))
    (ok_leaf (ok_getfield (show decode cX3_measure 2 = .ok (.getfield 34, 3) by decide +kernel) (Or.inr (fdF_X3 (by decide) wd_112 rfl rfl))))))
    (ok_node
    (ok_leaf (ok_iload_n (show decode cX3_measure 5 = .ok (.iload_n 1, 1) by decide +kernel) rfl))
    (ok_node
    (ok_leaf (ok_callV (C := RX2) (T := TX2) (N := 7) (Mc := M_X2_nodesAt) (show decode cX3_measure 6 = .ok (.invokevirtual 75, 3) by decide +kernel) rfl (by decide) (by decide +kernel) rfl rfl wd_142 wd_90 wd_91 wd_58 wd_92 ⟨by decide +kernel, by decide +kernel, by decide +kernel⟩ (by decide)))
    (ok_leaf (ok_iadd (show decode cX3_measure 9 = .ok (.iadd, 1) by decide +kernel))))))
    (ok_node
    (ok_node
    (ok_leaf (ok_aload_n (show decode cX3_measure 10 = .ok (.aload_n 0, 1) by decide +kernel) rfl))
    (ok_node
    (ok_leaf (ok_getfield (show decode cX3_measure 11 = .ok (.getfield 25, 3) by decide +kernel) (Or.inr (fdF_X3 (by decide) wd_109 rfl rfl))))
    (ok_leaf (ok_arraylength (show decode cX3_measure 14 = .ok (.arraylength, 1) by decide +kernel)))))
    (ok_node
    (ok_leaf (ok_min (show decode cX3_measure 15 = .ok (.invokestatic 78, 3) by decide +kernel) wd_143 wd_85 wd_86 wd_87))
    (ok_node
    (ok_leaf (ok_istore_n (show decode cX3_measure 18 = .ok (.istore_n 2, 1) by decide +kernel) rfl))
    (ok_leaf (ok_iload_n (show decode cX3_measure 19 = .ok (.iload_n 2, 1) by decide +kernel) rfl))))))
    (ok_node
    (ok_node
    (ok_node
    (ok_leaf (ok_iconst (show decode cX3_measure 20 = .ok (.iconst 1, 1) by decide +kernel) (by decide +kernel)))
    (ok_node
    (ok_leaf (ok_isub (show decode cX3_measure 21 = .ok (.isub, 1) by decide +kernel)))
    (ok_leaf (ok_istore_n (show decode cX3_measure 22 = .ok (.istore_n 3, 1) by decide +kernel) rfl))))
    (ok_node
    (ok_leaf (ok_iload_n (show decode cX3_measure 23 = .ok (.iload_n 3, 1) by decide +kernel) rfl))
    (ok_node
    (ok_leaf (ok_iload_n (show decode cX3_measure 24 = .ok (.iload_n 1, 1) by decide +kernel) rfl))
    (ok_leaf (ok_icmp_lt (show decode cX3_measure 25 = .ok (.if_icmp .lt 59, 3) by decide +kernel) (by decide +kernel))))))
    (ok_node
    (ok_node
    (ok_leaf (ok_iload_n (show decode cX3_measure 28 = .ok (.iload_n 3, 1) by decide +kernel) rfl))
    (ok_node
    (ok_leaf (ok_if_lt (show decode cX3_measure 29 = .ok (.ifCond .lt 55, 3) by decide +kernel) (by decide +kernel)))
    (ok_leaf (ok_aload_n (show decode cX3_measure 32 = .ok (.aload_n 0, 1) by decide +kernel) rfl))))
    (ok_node
    (ok_leaf (ok_getfield (show decode cX3_measure 33 = .ok (.getfield 14, 3) by decide +kernel) (Or.inr (fdF_X3 (by decide) wd_106 rfl rfl))))
    (ok_node
    (ok_leaf (ok_aload_n (show decode cX3_measure 36 = .ok (.aload_n 0, 1) by decide +kernel) rfl))
    (ok_leaf (ok_getfield (show decode cX3_measure 37 = .ok (.getfield 18, 3) by decide +kernel) (Or.inr (fdF_X3 (by decide) wd_107 rfl rfl)))))))))
    (ok_node
    (ok_node
    (ok_node
    (ok_node
    (ok_leaf (ok_iload_n (show decode cX3_measure 40 = .ok (.iload_n 3, 1) by decide +kernel) rfl))
    (ok_node
    (ok_leaf (ok_iaload (show decode cX3_measure 41 = .ok (.iaload, 1) by decide +kernel)))
    (ok_leaf (ok_aload_n (show decode cX3_measure 42 = .ok (.aload_n 0, 1) by decide +kernel) rfl))))
    (ok_node
    (ok_leaf (ok_iload_n (show decode cX3_measure 43 = .ok (.iload_n 3, 1) by decide +kernel) rfl))
    (ok_node
    (ok_leaf (ok_iconst (show decode cX3_measure 44 = .ok (.iconst 1, 1) by decide +kernel) (by decide +kernel)))
    (ok_leaf (ok_iadd (show decode cX3_measure 45 = .ok (.iadd, 1) by decide +kernel))))))
    (ok_node
    (ok_node
    (ok_leaf (ok_callV (C := RX3) (T := TX3) (N := 8) (Mc := M_X3_sizeAt) (show decode cX3_measure 46 = .ok (.invokevirtual 61, 3) by decide +kernel) rfl (by decide) (by decide +kernel) rfl rfl wd_129 wd_130 wd_131 wd_127 wd_132 ⟨by decide +kernel, by decide +kernel, by decide +kernel⟩ (by decide)))
    (ok_node
    (ok_leaf (ok_aload_n (show decode cX3_measure 49 = .ok (.aload_n 0, 1) by decide +kernel) rfl))
    (ok_leaf (ok_aload_n (show decode cX3_measure 50 = .ok (.aload_n 0, 1) by decide +kernel) rfl))))
    (ok_node
    (ok_leaf (ok_getfield (show decode cX3_measure 51 = .ok (.getfield 22, 3) by decide +kernel) (Or.inr (fdF_X3 (by decide) wd_108 rfl rfl))))
    (ok_node
    (ok_leaf (ok_iload_n (show decode cX3_measure 54 = .ok (.iload_n 3, 1) by decide +kernel) rfl))
    (ok_leaf (ok_iaload (show decode cX3_measure 55 = .ok (.iaload, 1) by decide +kernel)))))))
    (ok_node
    (ok_node
    (ok_node
    (ok_leaf (ok_callV (C := RX3) (T := TX3) (N := 8) (Mc := M_X3_sizeAt) (show decode cX3_measure 56 = .ok (.invokevirtual 61, 3) by decide +kernel) rfl (by decide) (by decide +kernel) rfl rfl wd_129 wd_130 wd_131 wd_127 wd_132 ⟨by decide +kernel, by decide +kernel, by decide +kernel⟩ (by decide)))
    (ok_node
    (ok_leaf (ok_callV (C := RX1) (T := TX1) (N := 4) (Mc := M_X1_nodesWith) (show decode cX3_measure 59 = .ok (.invokevirtual 83, 3) by decide +kernel) rfl (by decide) (by decide +kernel) rfl rfl wd_144 wd_145 wd_146 wd_44 wd_147 ⟨by decide +kernel, by decide +kernel, by decide +kernel⟩ (by decide)))
    (ok_leaf (ok_istore (show decode cX3_measure 62 = .ok (.istore 4, 2) by decide +kernel)))))
    (ok_node
    (ok_leaf (ok_aload_n (show decode cX3_measure 64 = .ok (.aload_n 0, 1) by decide +kernel) rfl))
    (ok_node
    (ok_leaf (ok_getfield (show decode cX3_measure 65 = .ok (.getfield 25, 3) by decide +kernel) (Or.inr (fdF_X3 (by decide) wd_109 rfl rfl))))
    (ok_leaf (ok_iload_n (show decode cX3_measure 68 = .ok (.iload_n 3, 1) by decide +kernel) rfl)))))
    (ok_node
    (ok_node
    (ok_leaf (ok_iload (show decode cX3_measure 69 = .ok (.iload 4, 2) by decide +kernel)))
    (ok_node
    (ok_leaf (ok_sipush (show decode cX3_measure 71 = .ok (.sipush 201, 3) by decide +kernel) (by decide +kernel)))
    (ok_leaf (ok_min (show decode cX3_measure 74 = .ok (.invokestatic 78, 3) by decide +kernel) wd_143 wd_85 wd_86 wd_87))))
    (ok_node
    (ok_node
    (ok_leaf (ok_iastore (show decode cX3_measure 77 = .ok (.iastore, 1) by decide +kernel)))
    (ok_leaf (ok_iinc (show decode cX3_measure 78 = .ok (.iinc 3 (-1), 3) by decide +kernel) (by decide +kernel))))
    (ok_node
    (ok_leaf (ok_goto (show decode cX3_measure 81 = .ok (.goto (-58), 3) by decide +kernel) (by decide +kernel)))
    (ok_leaf (ok_return (show decode cX3_measure 84 = .ok (.return_, 1) by decide +kernel) rfl)))))))
set_option maxRecDepth 20000 in
set_option maxHeartbeats 4000000 in
theorem ok_X3_build {sc : List Int32} : ∀ pc, pOk mtOf 189 M_X3_build false sc pc (cd_X3_build pc) := by
  unfold cd_X3_build
  exact ok_node
    (ok_node
    (ok_node
    (ok_node
    (ok_node
    (ok_node
    (ok_leaf (ok_iload_n (show decode cX3_build 0 = .ok (.iload_n 1, 1) by decide +kernel) rfl))
    (ok_leaf (ok_aload_n (show decode cX3_build 1 = .ok (.aload_n 0, 1) by decide +kernel) rfl)))
    (ok_node
    (ok_leaf (ok_getfield (show decode cX3_build 2 = .ok (.getfield 34, 3) by decide +kernel) (Or.inr (fdF_X3 (by decide) wd_112 rfl rfl))))
    (ok_node
    (ok_leaf (ok_iload_n (show decode cX3_build 5 = .ok (.iload_n 1, 1) by decide +kernel) rfl))
    (ok_leaf (ok_callV (C := RX2) (T := TX2) (N := 7) (Mc := M_X2_nodesAt) (show decode cX3_build 6 = .ok (.invokevirtual 75, 3) by decide +kernel) rfl (by decide) (by decide +kernel) rfl rfl wd_142 wd_90 wd_91 wd_58 wd_92 ⟨by decide +kernel, by decide +kernel, by decide +kernel⟩ (by decide))))))
    (ok_node
    (ok_node
    (ok_leaf (ok_iadd (show decode cX3_build 9 = .ok (.iadd, 1) by decide +kernel)))
    (ok_node
    (ok_leaf (ok_aload_n (show decode cX3_build 10 = .ok (.aload_n 0, 1) by decide +kernel) rfl))
    (ok_leaf (ok_getfield (show decode cX3_build 11 = .ok (.getfield 25, 3) by decide +kernel) (Or.inr (fdF_X3 (by decide) wd_109 rfl rfl))))))
    (ok_node
    (ok_leaf (ok_arraylength (show decode cX3_build 14 = .ok (.arraylength, 1) by decide +kernel)))
    (ok_node
    (ok_leaf (ok_min (show decode cX3_build 15 = .ok (.invokestatic 78, 3) by decide +kernel) wd_143 wd_85 wd_86 wd_87))
    (ok_leaf (ok_istore_n (show decode cX3_build 18 = .ok (.istore_n 2, 1) by decide +kernel) rfl))))))
    (ok_node
    (ok_node
    (ok_node
    (ok_leaf (ok_iload_n (show decode cX3_build 19 = .ok (.iload_n 2, 1) by decide +kernel) rfl))
    (ok_node
    (ok_leaf (ok_iconst (show decode cX3_build 20 = .ok (.iconst 1, 1) by decide +kernel) (by decide +kernel)))
    (ok_leaf (ok_isub (show decode cX3_build 21 = .ok (.isub, 1) by decide +kernel)))))
    (ok_node
    (ok_leaf (ok_istore_n (show decode cX3_build 22 = .ok (.istore_n 3, 1) by decide +kernel) rfl))
    (ok_node
    (ok_leaf (ok_iload_n (show decode cX3_build 23 = .ok (.iload_n 3, 1) by decide +kernel) rfl))
    (ok_leaf (ok_iload_n (show decode cX3_build 24 = .ok (.iload_n 1, 1) by decide +kernel) rfl)))))
    (ok_node
    (ok_node
    (ok_leaf (ok_icmp_lt (show decode cX3_build 25 = .ok (.if_icmp .lt 152, 3) by decide +kernel) (by decide +kernel)))
    (ok_node
    (ok_leaf (ok_iload_n (show decode cX3_build 28 = .ok (.iload_n 3, 1) by decide +kernel) rfl))
    (ok_leaf (ok_if_lt (show decode cX3_build 29 = .ok (.ifCond .lt 148, 3) by decide +kernel) (by decide +kernel)))))
    (ok_node
    (ok_leaf (ok_aload_n (show decode cX3_build 32 = .ok (.aload_n 0, 1) by decide +kernel) rfl))
    (ok_node
    (ok_leaf (ok_getfield (show decode cX3_build 33 = .ok (.getfield 25, 3) by decide +kernel) (Or.inr (fdF_X3 (by decide) wd_109 rfl rfl))))
    (ok_leaf (ok_iload_n (show decode cX3_build 36 = .ok (.iload_n 3, 1) by decide +kernel) rfl)))))))
    (ok_node
    (ok_node
    (ok_node
    (ok_node
    (ok_leaf (ok_iaload (show decode cX3_build 37 = .ok (.iaload, 1) by decide +kernel)))
    (ok_leaf (ok_sipush (show decode cX3_build 38 = .ok (.sipush 200, 3) by decide +kernel) (by decide +kernel))))
    (ok_node
    (ok_leaf (ok_icmp_gt (show decode cX3_build 41 = .ok (.if_icmp .gt 19, 3) by decide +kernel) (by decide +kernel)))
    (ok_node
    (ok_leaf (ok_aload_n (show decode cX3_build 44 = .ok (.aload_n 0, 1) by decide +kernel) rfl))
    (ok_leaf (ok_getfield (show decode cX3_build 45 = .ok (.getfield 14, 3) by decide +kernel) (Or.inr (fdF_X3 (by decide) wd_106 rfl rfl)))))))
    (ok_node
    (ok_node
    (ok_leaf (ok_aload_n (show decode cX3_build 48 = .ok (.aload_n 0, 1) by decide +kernel) rfl))
    (ok_node
    (ok_leaf (ok_getfield (show decode cX3_build 49 = .ok (.getfield 18, 3) by decide +kernel) (Or.inr (fdF_X3 (by decide) wd_107 rfl rfl))))
    (ok_leaf (ok_iload_n (show decode cX3_build 52 = .ok (.iload_n 3, 1) by decide +kernel) rfl))))
    (ok_node
    (ok_leaf (ok_iaload (show decode cX3_build 53 = .ok (.iaload, 1) by decide +kernel)))
    (ok_node
    (ok_leaf (ok_callV (C := RX1) (T := TX1) (N := 4) (Mc := M_X1_word) (show decode cX3_build 54 = .ok (.invokevirtual 54, 3) by decide +kernel) rfl (by decide) (by decide +kernel) rfl rfl wd_120 wd_121 wd_122 wd_44 wd_123 ⟨by decide +kernel, by decide +kernel, by decide +kernel⟩ (by decide)))
    (ok_leaf (ok_goto (show decode cX3_build 57 = .ok (.goto 4, 3) by decide +kernel) (by decide +kernel)))))))
    (ok_node
    (ok_node
    (ok_node
    (ok_leaf (ok_iconst (show decode cX3_build 60 = .ok (.iconst 0, 1) by decide +kernel) (by decide +kernel)))
    (ok_node
    (ok_leaf (ok_istore (show decode cX3_build 61 = .ok (.istore 4, 2) by decide +kernel)))
    (ok_leaf (ok_aload_n (show decode cX3_build 63 = .ok (.aload_n 0, 1) by decide +kernel) rfl))))
    (ok_node
    (ok_leaf (ok_getfield (show decode cX3_build 64 = .ok (.getfield 28, 3) by decide +kernel) (Or.inr (fdF_X3 (by decide) wd_110 rfl rfl))))
    (ok_node
    (ok_leaf (ok_iload_n (show decode cX3_build 67 = .ok (.iload_n 3, 1) by decide +kernel) rfl))
    (ok_leaf (ok_aload_n (show decode cX3_build 68 = .ok (.aload_n 0, 1) by decide +kernel) rfl)))))
    (ok_node
    (ok_node
    (ok_leaf (ok_getfield (show decode cX3_build 69 = .ok (.getfield 64, 3) by decide +kernel) (Or.inl (fd_X3 (by decide) wd_133 rfl rfl))))
    (ok_node
    (ok_leaf (ok_iastore (show decode cX3_build 72 = .ok (.iastore, 1) by decide +kernel)))
    (ok_leaf (ok_iconst (show decode cX3_build 73 = .ok (.iconst 0, 1) by decide +kernel) (by decide +kernel)))))
    (ok_node
    (ok_leaf (ok_istore (show decode cX3_build 74 = .ok (.istore 5, 2) by decide +kernel)))
    (ok_node
    (ok_leaf (ok_iload (show decode cX3_build 76 = .ok (.iload 5, 2) by decide +kernel)))
    (ok_leaf (ok_bipush (show decode cX3_build 78 = .ok (.bipush 6, 2) by decide +kernel) (by decide +kernel)))))))))
    (ok_node
    (ok_node
    (ok_node
    (ok_node
    (ok_node
    (ok_leaf (ok_icmp_ge (show decode cX3_build 80 = .ok (.if_icmp .ge 91, 3) by decide +kernel) (by decide +kernel)))
    (ok_leaf (ok_iload (show decode cX3_build 83 = .ok (.iload 4, 2) by decide +kernel))))
    (ok_node
    (ok_leaf (ok_iload (show decode cX3_build 85 = .ok (.iload 5, 2) by decide +kernel)))
    (ok_node
    (ok_leaf (ok_callS (Mc := M_X0_letterIn) (show decode cX3_build 87 = .ok (.invokestatic 89, 3) by decide +kernel) rfl (by decide) (by decide +kernel) wd_148 wd_19 wd_10 wd_20 ⟨by decide +kernel, by decide +kernel, by decide +kernel⟩ (by decide)))
    (ok_leaf (ok_istore (show decode cX3_build 90 = .ok (.istore 6, 2) by decide +kernel))))))
    (ok_node
    (ok_node
    (ok_leaf (ok_iload (show decode cX3_build 92 = .ok (.iload 6, 2) by decide +kernel)))
    (ok_node
    (ok_leaf (ok_bipush (show decode cX3_build 94 = .ok (.bipush 49, 2) by decide +kernel) (by decide +kernel)))
    (ok_leaf (ok_icmp_ne (show decode cX3_build 96 = .ok (.if_icmp .ne 13, 3) by decide +kernel) (by decide +kernel)))))
    (ok_node
    (ok_leaf (ok_aload_n (show decode cX3_build 99 = .ok (.aload_n 0, 1) by decide +kernel) rfl))
    (ok_node
    (ok_leaf (ok_iload_n (show decode cX3_build 100 = .ok (.iload_n 3, 1) by decide +kernel) rfl))
    (ok_leaf (ok_iconst (show decode cX3_build 101 = .ok (.iconst 1, 1) by decide +kernel) (by decide +kernel)))))))
    (ok_node
    (ok_node
    (ok_node
    (ok_leaf (ok_iadd (show decode cX3_build 102 = .ok (.iadd, 1) by decide +kernel)))
    (ok_node
    (ok_leaf (ok_callV (C := RX3) (T := TX3) (N := 8) (Mc := M_X3_copyPart) (show decode cX3_build 103 = .ok (.invokevirtual 92, 3) by decide +kernel) rfl (by decide) (by decide +kernel) rfl rfl wd_149 wd_150 wd_151 wd_127 wd_152 ⟨by decide +kernel, by decide +kernel, by decide +kernel⟩ (by decide)))
    (ok_leaf (ok_goto (show decode cX3_build 106 = .ok (.goto 59, 3) by decide +kernel) (by decide +kernel)))))
    (ok_node
    (ok_leaf (ok_iload (show decode cX3_build 109 = .ok (.iload 6, 2) by decide +kernel)))
    (ok_node
    (ok_leaf (ok_bipush (show decode cX3_build 111 = .ok (.bipush 50, 2) by decide +kernel) (by decide +kernel)))
    (ok_leaf (ok_icmp_ne (show decode cX3_build 113 = .ok (.if_icmp .ne 16, 3) by decide +kernel) (by decide +kernel))))))
    (ok_node
    (ok_node
    (ok_leaf (ok_aload_n (show decode cX3_build 116 = .ok (.aload_n 0, 1) by decide +kernel) rfl))
    (ok_node
    (ok_leaf (ok_aload_n (show decode cX3_build 117 = .ok (.aload_n 0, 1) by decide +kernel) rfl))
    (ok_leaf (ok_getfield (show decode cX3_build 118 = .ok (.getfield 22, 3) by decide +kernel) (Or.inr (fdF_X3 (by decide) wd_108 rfl rfl))))))
    (ok_node
    (ok_leaf (ok_iload_n (show decode cX3_build 121 = .ok (.iload_n 3, 1) by decide +kernel) rfl))
    (ok_node
    (ok_leaf (ok_iaload (show decode cX3_build 122 = .ok (.iaload, 1) by decide +kernel)))
    (ok_leaf (ok_callV (C := RX3) (T := TX3) (N := 8) (Mc := M_X3_copyPart) (show decode cX3_build 123 = .ok (.invokevirtual 92, 3) by decide +kernel) rfl (by decide) (by decide +kernel) rfl rfl wd_149 wd_150 wd_151 wd_127 wd_152 ⟨by decide +kernel, by decide +kernel, by decide +kernel⟩ (by decide))))))))
    (ok_node
    (ok_node
    (ok_node
    (ok_node
    (ok_leaf (ok_goto (show decode cX3_build 126 = .ok (.goto 39, 3) by decide +kernel) (by decide +kernel)))
    (ok_node
    (ok_leaf (ok_iload (show decode cX3_build 129 = .ok (.iload 6, 2) by decide +kernel)))
    (ok_leaf (ok_if_eq (show decode cX3_build 131 = .ok (.ifCond .eq 34, 3) by decide +kernel) (by decide +kernel)))))
    (ok_node
    (ok_leaf (ok_aload_n (show decode cX3_build 134 = .ok (.aload_n 0, 1) by decide +kernel) rfl))
    (ok_node
    (ok_leaf (ok_getfield (show decode cX3_build 135 = .ok (.getfield 64, 3) by decide +kernel) (Or.inl (fd_X3 (by decide) wd_133 rfl rfl))))
    (ok_leaf (ok_sipush (show decode cX3_build 138 = .ok (.sipush 8000, 3) by decide +kernel) (by decide +kernel))))))
    (ok_node
    (ok_node
    (ok_leaf (ok_icmp_ge (show decode cX3_build 141 = .ok (.if_icmp .ge 24, 3) by decide +kernel) (by decide +kernel)))
    (ok_node
    (ok_leaf (ok_aload_n (show decode cX3_build 144 = .ok (.aload_n 0, 1) by decide +kernel) rfl))
    (ok_leaf (ok_getfield (show decode cX3_build 145 = .ok (.getfield 31, 3) by decide +kernel) (Or.inr (fdF_X3 (by decide) wd_111 rfl rfl))))))
    (ok_node
    (ok_leaf (ok_aload_n (show decode cX3_build 148 = .ok (.aload_n 0, 1) by decide +kernel) rfl))
    (ok_node
    (ok_leaf (ok_getfield (show decode cX3_build 149 = .ok (.getfield 64, 3) by decide +kernel) (Or.inl (fd_X3 (by decide) wd_133 rfl rfl))))
    (ok_leaf (ok_iload (show decode cX3_build 152 = .ok (.iload 6, 2) by decide +kernel)))))))
    (ok_node
    (ok_node
    (ok_node
    (ok_leaf (ok_iastore (show decode cX3_build 154 = .ok (.iastore, 1) by decide +kernel)))
    (ok_node
    (ok_leaf (ok_aload_n (show decode cX3_build 155 = .ok (.aload_n 0, 1) by decide +kernel) rfl))
    (ok_leaf (ok_dup (show decode cX3_build 156 = .ok (.dup, 1) by decide +kernel)))))
    (ok_node
    (ok_leaf (ok_getfield (show decode cX3_build 157 = .ok (.getfield 64, 3) by decide +kernel) (Or.inl (fd_X3 (by decide) wd_133 rfl rfl))))
    (ok_node
    (ok_leaf (ok_iconst (show decode cX3_build 160 = .ok (.iconst 1, 1) by decide +kernel) (by decide +kernel)))
    (ok_leaf (ok_iadd (show decode cX3_build 161 = .ok (.iadd, 1) by decide +kernel))))))
    (ok_node
    (ok_node
    (ok_leaf (ok_putI (show decode cX3_build 162 = .ok (.putfield 64, 3) by decide +kernel) (Or.inl (fd_X3 (by decide) wd_133 rfl rfl)) rfl))
    (ok_node
    (ok_leaf (ok_iinc (show decode cX3_build 165 = .ok (.iinc 5 1, 3) by decide +kernel) (by decide +kernel)))
    (ok_leaf (ok_goto (show decode cX3_build 168 = .ok (.goto (-92), 3) by decide +kernel) (by decide +kernel)))))
    (ok_node
    (ok_leaf (ok_iinc (show decode cX3_build 171 = .ok (.iinc 3 (-1), 3) by decide +kernel) (by decide +kernel)))
    (ok_node
    (ok_leaf (ok_goto (show decode cX3_build 174 = .ok (.goto (-151), 3) by decide +kernel) (by decide +kernel)))
    (ok_leaf (ok_return (show decode cX3_build 177 = .ok (.return_, 1) by decide +kernel) rfl))))))))
set_option maxRecDepth 20000 in
set_option maxHeartbeats 4000000 in
theorem ok_X3_copyPart {sc : List Int32} : ∀ pc, pOk mtOf 189 M_X3_copyPart false sc pc (cd_X3_copyPart pc) := by
  unfold cd_X3_copyPart
  exact ok_node
    (ok_node
    (ok_node
    (ok_node
    (ok_node
    (ok_leaf (ok_iload_n (show decode cX3_copyPart 0 = .ok (.iload_n 1, 1) by decide +kernel) rfl))
    (ok_node
    (ok_leaf (ok_if_lt (show decode cX3_copyPart 1 = .ok (.ifCond .lt 12, 3) by decide +kernel) (by decide +kernel)))
    (ok_leaf (ok_iload_n (show decode cX3_copyPart 4 = .ok (.iload_n 1, 1) by decide +kernel) rfl))))
    (ok_node
    (ok_leaf (ok_aload_n (show decode cX3_copyPart 5 = .ok (.aload_n 0, 1) by decide +kernel) rfl))
    (ok_node
    (ok_leaf (ok_getfield (show decode cX3_copyPart 6 = .ok (.getfield 28, 3) by decide +kernel) (Or.inr (fdF_X3 (by decide) wd_110 rfl rfl))))
    (ok_leaf (ok_arraylength (show decode cX3_copyPart 9 = .ok (.arraylength, 1) by decide +kernel))))))
    (ok_node
    (ok_node
    (ok_leaf (ok_icmp_lt (show decode cX3_copyPart 10 = .ok (.if_icmp .lt 4, 3) by decide +kernel) (by decide +kernel)))
    (ok_node
    (ok_leaf (ok_return (show decode cX3_copyPart 13 = .ok (.return_, 1) by decide +kernel) rfl))
    (ok_leaf (ok_aload_n (show decode cX3_copyPart 14 = .ok (.aload_n 0, 1) by decide +kernel) rfl))))
    (ok_node
    (ok_leaf (ok_getfield (show decode cX3_copyPart 15 = .ok (.getfield 28, 3) by decide +kernel) (Or.inr (fdF_X3 (by decide) wd_110 rfl rfl))))
    (ok_node
    (ok_leaf (ok_iload_n (show decode cX3_copyPart 18 = .ok (.iload_n 1, 1) by decide +kernel) rfl))
    (ok_leaf (ok_iaload (show decode cX3_copyPart 19 = .ok (.iaload, 1) by decide +kernel)))))))
    (ok_node
    (ok_node
    (ok_node
    (ok_leaf (ok_istore_n (show decode cX3_copyPart 20 = .ok (.istore_n 2, 1) by decide +kernel) rfl))
    (ok_node
    (ok_leaf (ok_aload_n (show decode cX3_copyPart 21 = .ok (.aload_n 0, 1) by decide +kernel) rfl))
    (ok_leaf (ok_getfield (show decode cX3_copyPart 22 = .ok (.getfield 25, 3) by decide +kernel) (Or.inr (fdF_X3 (by decide) wd_109 rfl rfl))))))
    (ok_node
    (ok_leaf (ok_iload_n (show decode cX3_copyPart 25 = .ok (.iload_n 1, 1) by decide +kernel) rfl))
    (ok_node
    (ok_leaf (ok_iaload (show decode cX3_copyPart 26 = .ok (.iaload, 1) by decide +kernel)))
    (ok_leaf (ok_istore_n (show decode cX3_copyPart 27 = .ok (.istore_n 3, 1) by decide +kernel) rfl)))))
    (ok_node
    (ok_node
    (ok_leaf (ok_iload_n (show decode cX3_copyPart 28 = .ok (.iload_n 2, 1) by decide +kernel) rfl))
    (ok_node
    (ok_leaf (ok_if_lt (show decode cX3_copyPart 29 = .ok (.ifCond .lt 56, 3) by decide +kernel) (by decide +kernel)))
    (ok_leaf (ok_iload_n (show decode cX3_copyPart 32 = .ok (.iload_n 3, 1) by decide +kernel) rfl))))
    (ok_node
    (ok_node
    (ok_leaf (ok_if_lt (show decode cX3_copyPart 33 = .ok (.ifCond .lt 52, 3) by decide +kernel) (by decide +kernel)))
    (ok_leaf (ok_iload_n (show decode cX3_copyPart 36 = .ok (.iload_n 2, 1) by decide +kernel) rfl)))
    (ok_node
    (ok_leaf (ok_iload_n (show decode cX3_copyPart 37 = .ok (.iload_n 3, 1) by decide +kernel) rfl))
    (ok_leaf (ok_iadd (show decode cX3_copyPart 38 = .ok (.iadd, 1) by decide +kernel))))))))
    (ok_node
    (ok_node
    (ok_node
    (ok_node
    (ok_leaf (ok_aload_n (show decode cX3_copyPart 39 = .ok (.aload_n 0, 1) by decide +kernel) rfl))
    (ok_node
    (ok_leaf (ok_getfield (show decode cX3_copyPart 40 = .ok (.getfield 64, 3) by decide +kernel) (Or.inl (fd_X3 (by decide) wd_133 rfl rfl))))
    (ok_leaf (ok_icmp_gt (show decode cX3_copyPart 43 = .ok (.if_icmp .gt 42, 3) by decide +kernel) (by decide +kernel)))))
    (ok_node
    (ok_leaf (ok_aload_n (show decode cX3_copyPart 46 = .ok (.aload_n 0, 1) by decide +kernel) rfl))
    (ok_node
    (ok_leaf (ok_getfield (show decode cX3_copyPart 47 = .ok (.getfield 64, 3) by decide +kernel) (Or.inl (fd_X3 (by decide) wd_133 rfl rfl))))
    (ok_leaf (ok_iload_n (show decode cX3_copyPart 50 = .ok (.iload_n 3, 1) by decide +kernel) rfl)))))
    (ok_node
    (ok_node
    (ok_leaf (ok_iadd (show decode cX3_copyPart 51 = .ok (.iadd, 1) by decide +kernel)))
    (ok_node
    (ok_leaf (ok_sipush (show decode cX3_copyPart 52 = .ok (.sipush 8000, 3) by decide +kernel) (by decide +kernel)))
    (ok_leaf (ok_icmp_gt (show decode cX3_copyPart 55 = .ok (.if_icmp .gt 30, 3) by decide +kernel) (by decide +kernel)))))
    (ok_node
    (ok_leaf (ok_aload_n (show decode cX3_copyPart 58 = .ok (.aload_n 0, 1) by decide +kernel) rfl))
    (ok_node
    (ok_leaf (ok_getfield (show decode cX3_copyPart 59 = .ok (.getfield 31, 3) by decide +kernel) (Or.inr (fdF_X3 (by decide) wd_111 rfl rfl))))
    (ok_leaf (ok_iload_n (show decode cX3_copyPart 62 = .ok (.iload_n 2, 1) by decide +kernel) rfl))))))
    (ok_node
    (ok_node
    (ok_node
    (ok_leaf (ok_aload_n (show decode cX3_copyPart 63 = .ok (.aload_n 0, 1) by decide +kernel) rfl))
    (ok_node
    (ok_leaf (ok_getfield (show decode cX3_copyPart 64 = .ok (.getfield 31, 3) by decide +kernel) (Or.inr (fdF_X3 (by decide) wd_111 rfl rfl))))
    (ok_leaf (ok_aload_n (show decode cX3_copyPart 67 = .ok (.aload_n 0, 1) by decide +kernel) rfl))))
    (ok_node
    (ok_leaf (ok_getfield (show decode cX3_copyPart 68 = .ok (.getfield 64, 3) by decide +kernel) (Or.inl (fd_X3 (by decide) wd_133 rfl rfl))))
    (ok_node
    (ok_leaf (ok_iload_n (show decode cX3_copyPart 71 = .ok (.iload_n 3, 1) by decide +kernel) rfl))
    (ok_leaf (ok_copy (show decode cX3_copyPart 72 = .ok (.invokestatic 95, 3) by decide +kernel) wd_153 wd_76 wd_77 wd_78)))))
    (ok_node
    (ok_node
    (ok_leaf (ok_aload_n (show decode cX3_copyPart 75 = .ok (.aload_n 0, 1) by decide +kernel) rfl))
    (ok_node
    (ok_leaf (ok_dup (show decode cX3_copyPart 76 = .ok (.dup, 1) by decide +kernel)))
    (ok_leaf (ok_getfield (show decode cX3_copyPart 77 = .ok (.getfield 64, 3) by decide +kernel) (Or.inl (fd_X3 (by decide) wd_133 rfl rfl))))))
    (ok_node
    (ok_node
    (ok_leaf (ok_iload_n (show decode cX3_copyPart 80 = .ok (.iload_n 3, 1) by decide +kernel) rfl))
    (ok_leaf (ok_iadd (show decode cX3_copyPart 81 = .ok (.iadd, 1) by decide +kernel))))
    (ok_node
    (ok_leaf (ok_putI (show decode cX3_copyPart 82 = .ok (.putfield 64, 3) by decide +kernel) (Or.inl (fd_X3 (by decide) wd_133 rfl rfl)) rfl))
    (ok_leaf (ok_return (show decode cX3_copyPart 85 = .ok (.return_, 1) by decide +kernel) rfl)))))))
set_option maxRecDepth 20000 in
set_option maxHeartbeats 4000000 in
theorem ok_X4_init {sc : List Int32} : ∀ pc, pOk mtOf 189 M_X4_init false sc pc (cd_X4_init pc) := by
  unfold cd_X4_init
  exact ok_node
    (ok_node
    (ok_node
    (ok_node
    (ok_leaf (ok_aload_n (show decode cX4_init 0 = .ok (.aload_n 0, 1) by decide +kernel) rfl))
    (ok_leaf (ok_obj (show decode cX4_init 1 = .ok (.invokespecial 1, 3) by decide +kernel) wd_154 wd_1 wd_2)))
    (ok_node
    (ok_leaf (ok_aload_n (show decode cX4_init 4 = .ok (.aload_n 0, 1) by decide +kernel) rfl))
    (ok_node
    (ok_leaf (ok_iconst (show decode cX4_init 5 = .ok (.iconst 5, 1) by decide +kernel) (by decide +kernel)))
    (ok_leaf (ok_anewarray (show decode cX4_init 6 = .ok (.anewarray 9, 3) by decide +kernel) wd_155)))))
    (ok_node
    (ok_node
    (ok_leaf (ok_putR (show decode cX4_init 9 = .ok (.putfield 11, 3) by decide +kernel) (Or.inr ⟨fdF_X4 (by decide) wd_156 rfl rfl, rfl, fun r hr => by cases hr; rfl⟩) (Or.inr ⟨_, rfl⟩)))
    (ok_leaf (ok_iconst (show decode cX4_init 12 = .ok (.iconst 0, 1) by decide +kernel) (by decide +kernel))))
    (ok_node
    (ok_leaf (ok_istore_n (show decode cX4_init 13 = .ok (.istore_n 1, 1) by decide +kernel) rfl))
    (ok_node
    (ok_leaf (ok_iload_n (show decode cX4_init 14 = .ok (.iload_n 1, 1) by decide +kernel) rfl))
    (ok_leaf (ok_iconst (show decode cX4_init 15 = .ok (.iconst 5, 1) by decide +kernel) (by decide +kernel)))))))
    (ok_node
    (ok_node
    (ok_node
    (ok_leaf (ok_icmp_ge (show decode cX4_init 16 = .ok (.if_icmp .ge 22, 3) by decide +kernel) (by decide +kernel)))
    (ok_leaf (ok_aload_n (show decode cX4_init 19 = .ok (.aload_n 0, 1) by decide +kernel) rfl)))
    (ok_node
    (ok_leaf (ok_getfield (show decode cX4_init 20 = .ok (.getfield 11, 3) by decide +kernel) (Or.inr (fdF_X4 (by decide) wd_156 rfl rfl))))
    (ok_node
    (ok_leaf (ok_iload_n (show decode cX4_init 23 = .ok (.iload_n 1, 1) by decide +kernel) rfl))
    (ok_leaf (ok_new (C := RX2) (T := TX2) (N := 7) (show decode cX4_init 24 = .ok (.new 9, 3) by decide +kernel) rfl in_X2 tyX2_ok wd_155 wd_157 wd_58 (by decide +kernel) rfl (fun _ _ => rfl))))))
    (ok_node
    (ok_node
    (ok_leaf (ok_dup (show decode cX4_init 27 = .ok (.dup, 1) by decide +kernel)))
    (ok_node
    (ok_leaf (ok_callIN (Mc := M_X2_init) (show decode cX4_init 28 = .ok (.invokespecial 15, 3) by decide +kernel) rfl (by decide) (by decide +kernel) rfl rfl (by decide +kernel) wd_158 wd_58 wd_159 ⟨by decide +kernel, by decide +kernel, by decide +kernel⟩ (by decide)))
    (ok_leaf (ok_aastore (show decode cX4_init 31 = .ok (.aastore, 1) by decide +kernel)))))
    (ok_node
    (ok_leaf (ok_iinc (show decode cX4_init 32 = .ok (.iinc 1 1, 3) by decide +kernel) (by decide +kernel)))
    (ok_node
    (ok_leaf (ok_goto (show decode cX4_init 35 = .ok (.goto (-21), 3) by decide +kernel) (by decide +kernel)))
    (ok_leaf (ok_return (show decode cX4_init 38 = .ok (.return_, 1) by decide +kernel) rfl))))))
set_option maxRecDepth 20000 in
set_option maxHeartbeats 4000000 in
theorem ok_X4_count {sc : List Int32} : ∀ pc, pOk mtOf 189 M_X4_count false sc pc (cd_X4_count pc) := by
  unfold cd_X4_count
  exact ok_node
    (ok_leaf (ok_aload_n (show decode cX4_count 0 = .ok (.aload_n 0, 1) by decide +kernel) rfl))
    (ok_node
    (ok_leaf (ok_getfield (show decode cX4_count 1 = .ok (.getfield 16, 3) by decide +kernel) (Or.inl (fd_X4 (by decide) wd_160 rfl rfl))))
    (ok_leaf (ok_ireturn (show decode cX4_count 4 = .ok (.ireturn, 1) by decide +kernel) rfl)))
set_option maxRecDepth 20000 in
set_option maxHeartbeats 4000000 in
theorem ok_X4_push {sc : List Int32} : ∀ pc, pOk mtOf 189 M_X4_push false sc pc (cd_X4_push pc) := by
  unfold cd_X4_push
  exact ok_node
    (ok_node
    (ok_node
    (ok_node
    (ok_node
    (ok_leaf (ok_aload_n (show decode cX4_push 0 = .ok (.aload_n 0, 1) by decide +kernel) rfl))
    (ok_node
    (ok_leaf (ok_getfield (show decode cX4_push 1 = .ok (.getfield 16, 3) by decide +kernel) (Or.inl (fd_X4 (by decide) wd_160 rfl rfl))))
    (ok_leaf (ok_iconst (show decode cX4_push 4 = .ok (.iconst 5, 1) by decide +kernel) (by decide +kernel)))))
    (ok_node
    (ok_leaf (ok_icmp_lt (show decode cX4_push 5 = .ok (.if_icmp .lt 51, 3) by decide +kernel) (by decide +kernel)))
    (ok_node
    (ok_leaf (ok_aload_n (show decode cX4_push 8 = .ok (.aload_n 0, 1) by decide +kernel) rfl))
    (ok_leaf (ok_getfield (show decode cX4_push 9 = .ok (.getfield 11, 3) by decide +kernel) (Or.inr (fdF_X4 (by decide) wd_156 rfl rfl)))))))
    (ok_node
    (ok_node
    (ok_leaf (ok_iconst (show decode cX4_push 12 = .ok (.iconst 0, 1) by decide +kernel) (by decide +kernel)))
    (ok_node
    (ok_leaf (ok_aaload (show decode cX4_push 13 = .ok (.aaload, 1) by decide +kernel)))
    (ok_leaf (ok_astore_n (show decode cX4_push 14 = .ok (.astore_n 2, 1) by decide +kernel) rfl))))
    (ok_node
    (ok_leaf (ok_iconst (show decode cX4_push 15 = .ok (.iconst 0, 1) by decide +kernel) (by decide +kernel)))
    (ok_node
    (ok_leaf (ok_istore_n (show decode cX4_push 16 = .ok (.istore_n 3, 1) by decide +kernel) rfl))
    (ok_leaf (ok_iload_n (show decode cX4_push 17 = .ok (.iload_n 3, 1) by decide +kernel) rfl))))))
    (ok_node
    (ok_node
    (ok_node
    (ok_leaf (ok_iconst (show decode cX4_push 18 = .ok (.iconst 1, 1) by decide +kernel) (by decide +kernel)))
    (ok_node
    (ok_leaf (ok_iadd (show decode cX4_push 19 = .ok (.iadd, 1) by decide +kernel)))
    (ok_leaf (ok_iconst (show decode cX4_push 20 = .ok (.iconst 5, 1) by decide +kernel) (by decide +kernel)))))
    (ok_node
    (ok_leaf (ok_icmp_ge (show decode cX4_push 21 = .ok (.if_icmp .ge 23, 3) by decide +kernel) (by decide +kernel)))
    (ok_node
    (ok_leaf (ok_aload_n (show decode cX4_push 24 = .ok (.aload_n 0, 1) by decide +kernel) rfl))
    (ok_leaf (ok_getfield (show decode cX4_push 25 = .ok (.getfield 11, 3) by decide +kernel) (Or.inr (fdF_X4 (by decide) wd_156 rfl rfl)))))))
    (ok_node
    (ok_node
    (ok_leaf (ok_iload_n (show decode cX4_push 28 = .ok (.iload_n 3, 1) by decide +kernel) rfl))
    (ok_node
    (ok_leaf (ok_aload_n (show decode cX4_push 29 = .ok (.aload_n 0, 1) by decide +kernel) rfl))
    (ok_leaf (ok_getfield (show decode cX4_push 30 = .ok (.getfield 11, 3) by decide +kernel) (Or.inr (fdF_X4 (by decide) wd_156 rfl rfl))))))
    (ok_node
    (ok_node
    (ok_leaf (ok_iload_n (show decode cX4_push 33 = .ok (.iload_n 3, 1) by decide +kernel) rfl))
    (ok_leaf (ok_iconst (show decode cX4_push 34 = .ok (.iconst 1, 1) by decide +kernel) (by decide +kernel))))
    (ok_node
    (ok_leaf (ok_iadd (show decode cX4_push 35 = .ok (.iadd, 1) by decide +kernel)))
    (ok_leaf (ok_aaload (show decode cX4_push 36 = .ok (.aaload, 1) by decide +kernel))))))))
    (ok_node
    (ok_node
    (ok_node
    (ok_node
    (ok_leaf (ok_aastore (show decode cX4_push 37 = .ok (.aastore, 1) by decide +kernel)))
    (ok_node
    (ok_leaf (ok_iinc (show decode cX4_push 38 = .ok (.iinc 3 1, 3) by decide +kernel) (by decide +kernel)))
    (ok_leaf (ok_goto (show decode cX4_push 41 = .ok (.goto (-24), 3) by decide +kernel) (by decide +kernel)))))
    (ok_node
    (ok_leaf (ok_aload_n (show decode cX4_push 44 = .ok (.aload_n 0, 1) by decide +kernel) rfl))
    (ok_node
    (ok_leaf (ok_getfield (show decode cX4_push 45 = .ok (.getfield 11, 3) by decide +kernel) (Or.inr (fdF_X4 (by decide) wd_156 rfl rfl))))
    (ok_leaf (ok_iconst (show decode cX4_push 48 = .ok (.iconst 4, 1) by decide +kernel) (by decide +kernel))))))
    (ok_node
    (ok_node
    (ok_leaf (ok_aload_n (show decode cX4_push 49 = .ok (.aload_n 2, 1) by decide +kernel) rfl))
    (ok_node
    (ok_leaf (ok_aastore (show decode cX4_push 50 = .ok (.aastore, 1) by decide +kernel)))
    (ok_leaf (ok_aload_n (show decode cX4_push 51 = .ok (.aload_n 0, 1) by decide +kernel) rfl))))
    (ok_node
    (ok_leaf (ok_iconst (show decode cX4_push 52 = .ok (.iconst 4, 1) by decide +kernel) (by decide +kernel)))
    (ok_node
    (ok_leaf (ok_putI (show decode cX4_push 53 = .ok (.putfield 16, 3) by decide +kernel) (Or.inl (fd_X4 (by decide) wd_160 rfl rfl)) rfl))
    (ok_leaf (ok_aload_n (show decode cX4_push 56 = .ok (.aload_n 0, 1) by decide +kernel) rfl))))))
    (ok_node
    (ok_node
    (ok_node
    (ok_leaf (ok_getfield (show decode cX4_push 57 = .ok (.getfield 11, 3) by decide +kernel) (Or.inr (fdF_X4 (by decide) wd_156 rfl rfl))))
    (ok_node
    (ok_leaf (ok_aload_n (show decode cX4_push 60 = .ok (.aload_n 0, 1) by decide +kernel) rfl))
    (ok_leaf (ok_getfield (show decode cX4_push 61 = .ok (.getfield 16, 3) by decide +kernel) (Or.inl (fd_X4 (by decide) wd_160 rfl rfl))))))
    (ok_node
    (ok_leaf (ok_aaload (show decode cX4_push 64 = .ok (.aaload, 1) by decide +kernel)))
    (ok_node
    (ok_leaf (ok_aload_n (show decode cX4_push 65 = .ok (.aload_n 1, 1) by decide +kernel) rfl))
    (ok_leaf (ok_callV (C := RX2) (T := TX2) (N := 7) (Mc := M_X2_copyFrom) (show decode cX4_push 66 = .ok (.invokevirtual 20, 3) by decide +kernel) rfl (by decide) (by decide +kernel) rfl rfl wd_161 wd_162 wd_163 wd_58 wd_164 ⟨by decide +kernel, by decide +kernel, by decide +kernel⟩ (by decide))))))
    (ok_node
    (ok_node
    (ok_leaf (ok_aload_n (show decode cX4_push 69 = .ok (.aload_n 0, 1) by decide +kernel) rfl))
    (ok_node
    (ok_leaf (ok_dup (show decode cX4_push 70 = .ok (.dup, 1) by decide +kernel)))
    (ok_leaf (ok_getfield (show decode cX4_push 71 = .ok (.getfield 16, 3) by decide +kernel) (Or.inl (fd_X4 (by decide) wd_160 rfl rfl))))))
    (ok_node
    (ok_node
    (ok_leaf (ok_iconst (show decode cX4_push 74 = .ok (.iconst 1, 1) by decide +kernel) (by decide +kernel)))
    (ok_leaf (ok_iadd (show decode cX4_push 75 = .ok (.iadd, 1) by decide +kernel))))
    (ok_node
    (ok_leaf (ok_putI (show decode cX4_push 76 = .ok (.putfield 16, 3) by decide +kernel) (Or.inl (fd_X4 (by decide) wd_160 rfl rfl)) rfl))
    (ok_leaf (ok_return (show decode cX4_push 79 = .ok (.return_, 1) by decide +kernel) rfl)))))))
