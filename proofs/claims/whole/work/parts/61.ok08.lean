set_option maxRecDepth 20000 in
set_option maxHeartbeats 4000000 in
theorem ok_X11_picksNext {sc : List Int32} : ∀ pc, pOk mtOf 189 M_X11_picksNext false sc pc (cd_X11_picksNext pc) := by
  unfold cd_X11_picksNext
  exact ok_node
    (ok_node
    (ok_node
    (ok_node
    (ok_node
    (ok_node
    (ok_leaf (ok_aload_n (show decode cX11_picksNext 0 = .ok (.aload_n 0, 1) by decide +kernel) rfl))
    (ok_leaf (ok_getfield (show decode cX11_picksNext 1 = .ok (.getfield 46, 3) by decide +kernel) (Or.inr (fdF_X11 (by decide) wd_548 rfl rfl)))))
    (ok_node
    (ok_leaf (ok_iload_n (show decode cX11_picksNext 4 = .ok (.iload_n 1, 1) by decide +kernel) rfl))
    (ok_node
    (ok_leaf (ok_iaload (show decode cX11_picksNext 5 = .ok (.iaload, 1) by decide +kernel)))
    (ok_leaf (ok_iconst (show decode cX11_picksNext 6 = .ok (.iconst 3, 1) by decide +kernel) (by decide +kernel))))))
    (ok_node
    (ok_node
    (ok_leaf (ok_irem (show decode cX11_picksNext 7 = .ok (.irem, 1) by decide +kernel)))
    (ok_leaf (ok_istore_n (show decode cX11_picksNext 8 = .ok (.istore_n 3, 1) by decide +kernel) rfl)))
    (ok_node
    (ok_leaf (ok_iload_n (show decode cX11_picksNext 9 = .ok (.iload_n 1, 1) by decide +kernel) rfl))
    (ok_node
    (ok_leaf (ok_aload_n (show decode cX11_picksNext 10 = .ok (.aload_n 0, 1) by decide +kernel) rfl))
    (ok_leaf (ok_getfield (show decode cX11_picksNext 11 = .ok (.getfield 219, 3) by decide +kernel) (Or.inl (fd_X11 (by decide) wd_712 rfl rfl))))))))
    (ok_node
    (ok_node
    (ok_node
    (ok_leaf (ok_iconst (show decode cX11_picksNext 14 = .ok (.iconst 1, 1) by decide +kernel) (by decide +kernel)))
    (ok_leaf (ok_isub (show decode cX11_picksNext 15 = .ok (.isub, 1) by decide +kernel))))
    (ok_node
    (ok_leaf (ok_icmp_ne (show decode cX11_picksNext 16 = .ok (.if_icmp .ne 7, 3) by decide +kernel) (by decide +kernel)))
    (ok_node
    (ok_leaf (ok_iconst (show decode cX11_picksNext 19 = .ok (.iconst 1, 1) by decide +kernel) (by decide +kernel)))
    (ok_leaf (ok_goto (show decode cX11_picksNext 20 = .ok (.goto 4, 3) by decide +kernel) (by decide +kernel))))))
    (ok_node
    (ok_node
    (ok_leaf (ok_iconst (show decode cX11_picksNext 23 = .ok (.iconst 0, 1) by decide +kernel) (by decide +kernel)))
    (ok_node
    (ok_leaf (ok_istore (show decode cX11_picksNext 24 = .ok (.istore 4, 2) by decide +kernel)))
    (ok_leaf (ok_aload_n (show decode cX11_picksNext 26 = .ok (.aload_n 0, 1) by decide +kernel) rfl))))
    (ok_node
    (ok_leaf (ok_getfield (show decode cX11_picksNext 27 = .ok (.getfield 49, 3) by decide +kernel) (Or.inr (fdF_X11 (by decide) wd_549 rfl rfl))))
    (ok_node
    (ok_leaf (ok_iload_n (show decode cX11_picksNext 30 = .ok (.iload_n 1, 1) by decide +kernel) rfl))
    (ok_leaf (ok_dup2 (show decode cX11_picksNext 31 = .ok (.dup2, 1) by decide +kernel))))))))
    (ok_node
    (ok_node
    (ok_node
    (ok_node
    (ok_leaf (ok_iaload (show decode cX11_picksNext 32 = .ok (.iaload, 1) by decide +kernel)))
    (ok_leaf (ok_iconst (show decode cX11_picksNext 33 = .ok (.iconst 1, 1) by decide +kernel) (by decide +kernel))))
    (ok_node
    (ok_leaf (ok_iadd (show decode cX11_picksNext 34 = .ok (.iadd, 1) by decide +kernel)))
    (ok_node
    (ok_leaf (ok_iastore (show decode cX11_picksNext 35 = .ok (.iastore, 1) by decide +kernel)))
    (ok_leaf (ok_iload (show decode cX11_picksNext 36 = .ok (.iload 4, 2) by decide +kernel))))))
    (ok_node
    (ok_node
    (ok_leaf (ok_if_eq (show decode cX11_picksNext 38 = .ok (.ifCond .eq 44, 3) by decide +kernel) (by decide +kernel)))
    (ok_node
    (ok_leaf (ok_aload_n (show decode cX11_picksNext 41 = .ok (.aload_n 0, 1) by decide +kernel) rfl))
    (ok_leaf (ok_getfield (show decode cX11_picksNext 42 = .ok (.getfield 49, 3) by decide +kernel) (Or.inr (fdF_X11 (by decide) wd_549 rfl rfl))))))
    (ok_node
    (ok_leaf (ok_iload_n (show decode cX11_picksNext 45 = .ok (.iload_n 1, 1) by decide +kernel) rfl))
    (ok_node
    (ok_leaf (ok_iaload (show decode cX11_picksNext 46 = .ok (.iaload, 1) by decide +kernel)))
    (ok_leaf (ok_aload_n (show decode cX11_picksNext 47 = .ok (.aload_n 0, 1) by decide +kernel) rfl))))))
    (ok_node
    (ok_node
    (ok_node
    (ok_leaf (ok_getfield (show decode cX11_picksNext 48 = .ok (.getfield 28, 3) by decide +kernel) (Or.inr (fdF_X11 (by decide) wd_542 rfl rfl))))
    (ok_leaf (ok_bipush (show decode cX11_picksNext 51 = .ok (.bipush 7, 2) by decide +kernel) (by decide +kernel))))
    (ok_node
    (ok_leaf (ok_iload_n (show decode cX11_picksNext 53 = .ok (.iload_n 3, 1) by decide +kernel) rfl))
    (ok_node
    (ok_leaf (ok_imul (show decode cX11_picksNext 54 = .ok (.imul, 1) by decide +kernel)))
    (ok_leaf (ok_iload_n (show decode cX11_picksNext 55 = .ok (.iload_n 2, 1) by decide +kernel) rfl)))))
    (ok_node
    (ok_node
    (ok_leaf (ok_iadd (show decode cX11_picksNext 56 = .ok (.iadd, 1) by decide +kernel)))
    (ok_node
    (ok_leaf (ok_iconst (show decode cX11_picksNext 57 = .ok (.iconst 1, 1) by decide +kernel) (by decide +kernel)))
    (ok_leaf (ok_isub (show decode cX11_picksNext 58 = .ok (.isub, 1) by decide +kernel)))))
    (ok_node
    (ok_leaf (ok_iaload (show decode cX11_picksNext 59 = .ok (.iaload, 1) by decide +kernel)))
    (ok_node
    (ok_leaf (ok_icmp_ge (show decode cX11_picksNext 60 = .ok (.if_icmp .ge 22, 3) by decide +kernel) (by decide +kernel)))
    (ok_leaf (ok_aload_n (show decode cX11_picksNext 63 = .ok (.aload_n 0, 1) by decide +kernel) rfl))))))))
    (ok_node
    (ok_node
    (ok_node
    (ok_node
    (ok_node
    (ok_leaf (ok_getfield (show decode cX11_picksNext 64 = .ok (.getfield 49, 3) by decide +kernel) (Or.inr (fdF_X11 (by decide) wd_549 rfl rfl))))
    (ok_leaf (ok_iload_n (show decode cX11_picksNext 67 = .ok (.iload_n 1, 1) by decide +kernel) rfl)))
    (ok_node
    (ok_leaf (ok_aload_n (show decode cX11_picksNext 68 = .ok (.aload_n 0, 1) by decide +kernel) rfl))
    (ok_node
    (ok_leaf (ok_getfield (show decode cX11_picksNext 69 = .ok (.getfield 28, 3) by decide +kernel) (Or.inr (fdF_X11 (by decide) wd_542 rfl rfl))))
    (ok_leaf (ok_bipush (show decode cX11_picksNext 72 = .ok (.bipush 7, 2) by decide +kernel) (by decide +kernel))))))
    (ok_node
    (ok_node
    (ok_leaf (ok_iload_n (show decode cX11_picksNext 74 = .ok (.iload_n 3, 1) by decide +kernel) rfl))
    (ok_node
    (ok_leaf (ok_imul (show decode cX11_picksNext 75 = .ok (.imul, 1) by decide +kernel)))
    (ok_leaf (ok_iload_n (show decode cX11_picksNext 76 = .ok (.iload_n 2, 1) by decide +kernel) rfl))))
    (ok_node
    (ok_leaf (ok_iadd (show decode cX11_picksNext 77 = .ok (.iadd, 1) by decide +kernel)))
    (ok_node
    (ok_leaf (ok_iconst (show decode cX11_picksNext 78 = .ok (.iconst 1, 1) by decide +kernel) (by decide +kernel)))
    (ok_leaf (ok_isub (show decode cX11_picksNext 79 = .ok (.isub, 1) by decide +kernel)))))))
    (ok_node
    (ok_node
    (ok_node
    (ok_leaf (ok_iaload (show decode cX11_picksNext 80 = .ok (.iaload, 1) by decide +kernel)))
    (ok_leaf (ok_iastore (show decode cX11_picksNext 81 = .ok (.iastore, 1) by decide +kernel))))
    (ok_node
    (ok_leaf (ok_aload_n (show decode cX11_picksNext 82 = .ok (.aload_n 0, 1) by decide +kernel) rfl))
    (ok_node
    (ok_leaf (ok_getfield (show decode cX11_picksNext 83 = .ok (.getfield 49, 3) by decide +kernel) (Or.inr (fdF_X11 (by decide) wd_549 rfl rfl))))
    (ok_leaf (ok_iload_n (show decode cX11_picksNext 86 = .ok (.iload_n 1, 1) by decide +kernel) rfl)))))
    (ok_node
    (ok_node
    (ok_leaf (ok_iaload (show decode cX11_picksNext 87 = .ok (.iaload, 1) by decide +kernel)))
    (ok_node
    (ok_leaf (ok_aload_n (show decode cX11_picksNext 88 = .ok (.aload_n 0, 1) by decide +kernel) rfl))
    (ok_leaf (ok_getfield (show decode cX11_picksNext 89 = .ok (.getfield 28, 3) by decide +kernel) (Or.inr (fdF_X11 (by decide) wd_542 rfl rfl))))))
    (ok_node
    (ok_leaf (ok_bipush (show decode cX11_picksNext 92 = .ok (.bipush 7, 2) by decide +kernel) (by decide +kernel)))
    (ok_node
    (ok_leaf (ok_iload_n (show decode cX11_picksNext 94 = .ok (.iload_n 3, 1) by decide +kernel) rfl))
    (ok_leaf (ok_imul (show decode cX11_picksNext 95 = .ok (.imul, 1) by decide +kernel))))))))
    (ok_node
    (ok_node
    (ok_node
    (ok_node
    (ok_leaf (ok_iload_n (show decode cX11_picksNext 96 = .ok (.iload_n 2, 1) by decide +kernel) rfl))
    (ok_leaf (ok_iadd (show decode cX11_picksNext 97 = .ok (.iadd, 1) by decide +kernel))))
    (ok_node
    (ok_leaf (ok_iaload (show decode cX11_picksNext 98 = .ok (.iaload, 1) by decide +kernel)))
    (ok_node
    (ok_leaf (ok_icmp_lt (show decode cX11_picksNext 99 = .ok (.if_icmp .lt 5, 3) by decide +kernel) (by decide +kernel)))
    (ok_leaf (ok_iconst (show decode cX11_picksNext 102 = .ok (.iconst 0, 1) by decide +kernel) (by decide +kernel))))))
    (ok_node
    (ok_node
    (ok_leaf (ok_zreturn (show decode cX11_picksNext 103 = .ok (.ireturn, 1) by decide +kernel) rfl))
    (ok_node
    (ok_leaf (ok_aload_n (show decode cX11_picksNext 104 = .ok (.aload_n 0, 1) by decide +kernel) rfl))
    (ok_leaf (ok_getfield (show decode cX11_picksNext 105 = .ok (.getfield 43, 3) by decide +kernel) (Or.inr (fdF_X11 (by decide) wd_547 rfl rfl))))))
    (ok_node
    (ok_leaf (ok_aload_n (show decode cX11_picksNext 108 = .ok (.aload_n 0, 1) by decide +kernel) rfl))
    (ok_node
    (ok_leaf (ok_getfield (show decode cX11_picksNext 109 = .ok (.getfield 46, 3) by decide +kernel) (Or.inr (fdF_X11 (by decide) wd_548 rfl rfl))))
    (ok_leaf (ok_iload_n (show decode cX11_picksNext 112 = .ok (.iload_n 1, 1) by decide +kernel) rfl))))))
    (ok_node
    (ok_node
    (ok_node
    (ok_leaf (ok_iaload (show decode cX11_picksNext 113 = .ok (.iaload, 1) by decide +kernel)))
    (ok_leaf (ok_aload_n (show decode cX11_picksNext 114 = .ok (.aload_n 0, 1) by decide +kernel) rfl)))
    (ok_node
    (ok_leaf (ok_getfield (show decode cX11_picksNext 115 = .ok (.getfield 25, 3) by decide +kernel) (Or.inr (fdF_X11 (by decide) wd_541 rfl rfl))))
    (ok_node
    (ok_leaf (ok_aload_n (show decode cX11_picksNext 118 = .ok (.aload_n 0, 1) by decide +kernel) rfl))
    (ok_leaf (ok_getfield (show decode cX11_picksNext 119 = .ok (.getfield 49, 3) by decide +kernel) (Or.inr (fdF_X11 (by decide) wd_549 rfl rfl)))))))
    (ok_node
    (ok_node
    (ok_leaf (ok_iload_n (show decode cX11_picksNext 122 = .ok (.iload_n 1, 1) by decide +kernel) rfl))
    (ok_node
    (ok_leaf (ok_iaload (show decode cX11_picksNext 123 = .ok (.iaload, 1) by decide +kernel)))
    (ok_leaf (ok_iaload (show decode cX11_picksNext 124 = .ok (.iaload, 1) by decide +kernel)))))
    (ok_node
    (ok_leaf (ok_iastore (show decode cX11_picksNext 125 = .ok (.iastore, 1) by decide +kernel)))
    (ok_node
    (ok_leaf (ok_iconst (show decode cX11_picksNext 126 = .ok (.iconst 1, 1) by decide +kernel) (by decide +kernel)))
    (ok_leaf (ok_zreturn (show decode cX11_picksNext 127 = .ok (.ireturn, 1) by decide +kernel) rfl))))))))
set_option maxRecDepth 20000 in
set_option maxHeartbeats 4000000 in
theorem ok_X11_goesThrough {sc : List Int32} : ∀ pc, pOk mtOf 189 M_X11_goesThrough false sc pc (cd_X11_goesThrough pc) := by
  unfold cd_X11_goesThrough
  exact ok_node
    (ok_node
    (ok_node
    (ok_node
    (ok_node
    (ok_node
    (ok_leaf (ok_iconst (show decode cX11_goesThrough 0 = .ok (.iconst 0, 1) by decide +kernel) (by decide +kernel)))
    (ok_node
    (ok_leaf (ok_istore_n (show decode cX11_goesThrough 1 = .ok (.istore_n 2, 1) by decide +kernel) rfl))
    (ok_leaf (ok_iload_n (show decode cX11_goesThrough 2 = .ok (.iload_n 1, 1) by decide +kernel) rfl))))
    (ok_node
    (ok_leaf (ok_istore_n (show decode cX11_goesThrough 3 = .ok (.istore_n 3, 1) by decide +kernel) rfl))
    (ok_node
    (ok_leaf (ok_aload_n (show decode cX11_goesThrough 4 = .ok (.aload_n 0, 1) by decide +kernel) rfl))
    (ok_leaf (ok_getfield (show decode cX11_goesThrough 5 = .ok (.getfield 49, 3) by decide +kernel) (Or.inr (fdF_X11 (by decide) wd_549 rfl rfl)))))))
    (ok_node
    (ok_node
    (ok_leaf (ok_iconst (show decode cX11_goesThrough 8 = .ok (.iconst 0, 1) by decide +kernel) (by decide +kernel)))
    (ok_node
    (ok_leaf (ok_aload_n (show decode cX11_goesThrough 9 = .ok (.aload_n 0, 1) by decide +kernel) rfl))
    (ok_leaf (ok_getfield (show decode cX11_goesThrough 10 = .ok (.getfield 28, 3) by decide +kernel) (Or.inr (fdF_X11 (by decide) wd_542 rfl rfl))))))
    (ok_node
    (ok_leaf (ok_bipush (show decode cX11_goesThrough 13 = .ok (.bipush 7, 2) by decide +kernel) (by decide +kernel)))
    (ok_node
    (ok_leaf (ok_aload_n (show decode cX11_goesThrough 15 = .ok (.aload_n 0, 1) by decide +kernel) rfl))
    (ok_leaf (ok_getfield (show decode cX11_goesThrough 16 = .ok (.getfield 46, 3) by decide +kernel) (Or.inr (fdF_X11 (by decide) wd_548 rfl rfl))))))))
    (ok_node
    (ok_node
    (ok_node
    (ok_leaf (ok_iconst (show decode cX11_goesThrough 19 = .ok (.iconst 0, 1) by decide +kernel) (by decide +kernel)))
    (ok_node
    (ok_leaf (ok_iaload (show decode cX11_goesThrough 20 = .ok (.iaload, 1) by decide +kernel)))
    (ok_leaf (ok_iconst (show decode cX11_goesThrough 21 = .ok (.iconst 3, 1) by decide +kernel) (by decide +kernel)))))
    (ok_node
    (ok_leaf (ok_irem (show decode cX11_goesThrough 22 = .ok (.irem, 1) by decide +kernel)))
    (ok_node
    (ok_leaf (ok_imul (show decode cX11_goesThrough 23 = .ok (.imul, 1) by decide +kernel)))
    (ok_leaf (ok_iaload (show decode cX11_goesThrough 24 = .ok (.iaload, 1) by decide +kernel))))))
    (ok_node
    (ok_node
    (ok_leaf (ok_iconst (show decode cX11_goesThrough 25 = .ok (.iconst 1, 1) by decide +kernel) (by decide +kernel)))
    (ok_node
    (ok_leaf (ok_isub (show decode cX11_goesThrough 26 = .ok (.isub, 1) by decide +kernel)))
    (ok_leaf (ok_iastore (show decode cX11_goesThrough 27 = .ok (.iastore, 1) by decide +kernel)))))
    (ok_node
    (ok_leaf (ok_iload_n (show decode cX11_goesThrough 28 = .ok (.iload_n 2, 1) by decide +kernel) rfl))
    (ok_node
    (ok_leaf (ok_if_lt (show decode cX11_goesThrough 29 = .ok (.ifCond .lt 126, 3) by decide +kernel) (by decide +kernel)))
    (ok_leaf (ok_aload_n (show decode cX11_goesThrough 32 = .ok (.aload_n 0, 1) by decide +kernel) rfl)))))))
    (ok_node
    (ok_node
    (ok_node
    (ok_node
    (ok_leaf (ok_getfield (show decode cX11_goesThrough 33 = .ok (.getfield 249, 3) by decide +kernel) (Or.inl (fd_X11 (by decide) wd_744 rfl rfl))))
    (ok_node
    (ok_leaf (ok_bipush (show decode cX11_goesThrough 36 = .ok (.bipush 40, 2) by decide +kernel) (by decide +kernel)))
    (ok_leaf (ok_icmp_ge (show decode cX11_goesThrough 38 = .ok (.if_icmp .ge 117, 3) by decide +kernel) (by decide +kernel)))))
    (ok_node
    (ok_leaf (ok_aload_n (show decode cX11_goesThrough 41 = .ok (.aload_n 0, 1) by decide +kernel) rfl))
    (ok_node
    (ok_leaf (ok_iload_n (show decode cX11_goesThrough 42 = .ok (.iload_n 2, 1) by decide +kernel) rfl))
    (ok_leaf (ok_iload_n (show decode cX11_goesThrough 43 = .ok (.iload_n 3, 1) by decide +kernel) rfl)))))
    (ok_node
    (ok_node
    (ok_leaf (ok_aload_n (show decode cX11_goesThrough 44 = .ok (.aload_n 0, 1) by decide +kernel) rfl))
    (ok_node
    (ok_leaf (ok_getfield (show decode cX11_goesThrough 45 = .ok (.getfield 219, 3) by decide +kernel) (Or.inl (fd_X11 (by decide) wd_712 rfl rfl))))
    (ok_leaf (ok_iconst (show decode cX11_goesThrough 48 = .ok (.iconst 1, 1) by decide +kernel) (by decide +kernel)))))
    (ok_node
    (ok_leaf (ok_isub (show decode cX11_goesThrough 49 = .ok (.isub, 1) by decide +kernel)))
    (ok_node
    (ok_leaf (ok_iload_n (show decode cX11_goesThrough 50 = .ok (.iload_n 2, 1) by decide +kernel) rfl))
    (ok_leaf (ok_isub (show decode cX11_goesThrough 51 = .ok (.isub, 1) by decide +kernel)))))))
    (ok_node
    (ok_node
    (ok_node
    (ok_leaf (ok_isub (show decode cX11_goesThrough 52 = .ok (.isub, 1) by decide +kernel)))
    (ok_node
    (ok_leaf (ok_callV (C := RX11) (T := TX11) (N := 31) (Mc := M_X11_picksNext) (show decode cX11_goesThrough 53 = .ok (.invokevirtual 255, 3) by decide +kernel) rfl (by decide) (by decide +kernel) rfl rfl wd_749 wd_750 wd_751 wd_558 wd_752 ⟨by decide +kernel, by decide +kernel, by decide +kernel⟩ (by decide)))
    (ok_leaf (ok_if_ne (show decode cX11_goesThrough 56 = .ok (.ifCond .ne 34, 3) by decide +kernel) (by decide +kernel)))))
    (ok_node
    (ok_leaf (ok_iinc (show decode cX11_goesThrough 59 = .ok (.iinc 2 (-1), 3) by decide +kernel) (by decide +kernel)))
    (ok_node
    (ok_leaf (ok_iload_n (show decode cX11_goesThrough 62 = .ok (.iload_n 3, 1) by decide +kernel) rfl))
    (ok_leaf (ok_iload_n (show decode cX11_goesThrough 63 = .ok (.iload_n 2, 1) by decide +kernel) rfl)))))
    (ok_node
    (ok_node
    (ok_leaf (ok_if_lt (show decode cX11_goesThrough 64 = .ok (.ifCond .lt 20, 3) by decide +kernel) (by decide +kernel)))
    (ok_node
    (ok_leaf (ok_aload_n (show decode cX11_goesThrough 67 = .ok (.aload_n 0, 1) by decide +kernel) rfl))
    (ok_leaf (ok_getfield (show decode cX11_goesThrough 68 = .ok (.getfield 43, 3) by decide +kernel) (Or.inr (fdF_X11 (by decide) wd_547 rfl rfl))))))
    (ok_node
    (ok_leaf (ok_aload_n (show decode cX11_goesThrough 71 = .ok (.aload_n 0, 1) by decide +kernel) rfl))
    (ok_node
    (ok_leaf (ok_getfield (show decode cX11_goesThrough 72 = .ok (.getfield 46, 3) by decide +kernel) (Or.inr (fdF_X11 (by decide) wd_548 rfl rfl))))
    (ok_leaf (ok_iload_n (show decode cX11_goesThrough 75 = .ok (.iload_n 2, 1) by decide +kernel) rfl))))))))
    (ok_node
    (ok_node
    (ok_node
    (ok_node
    (ok_node
    (ok_leaf (ok_iaload (show decode cX11_goesThrough 76 = .ok (.iaload, 1) by decide +kernel)))
    (ok_node
    (ok_leaf (ok_iaload (show decode cX11_goesThrough 77 = .ok (.iaload, 1) by decide +kernel)))
    (ok_leaf (ok_callS (Mc := M_X11_sizeOf) (show decode cX11_goesThrough 78 = .ok (.invokestatic 234, 3) by decide +kernel) rfl (by decide) (by decide +kernel) wd_726 wd_727 wd_558 wd_728 ⟨by decide +kernel, by decide +kernel, by decide +kernel⟩ (by decide)))))
    (ok_node
    (ok_leaf (ok_goto (show decode cX11_goesThrough 81 = .ok (.goto 4, 3) by decide +kernel) (by decide +kernel)))
    (ok_node
    (ok_leaf (ok_iconst (show decode cX11_goesThrough 84 = .ok (.iconst 0, 1) by decide +kernel) (by decide +kernel)))
    (ok_leaf (ok_iadd (show decode cX11_goesThrough 85 = .ok (.iadd, 1) by decide +kernel))))))
    (ok_node
    (ok_node
    (ok_leaf (ok_istore_n (show decode cX11_goesThrough 86 = .ok (.istore_n 3, 1) by decide +kernel) rfl))
    (ok_node
    (ok_leaf (ok_goto (show decode cX11_goesThrough 87 = .ok (.goto (-59), 3) by decide +kernel) (by decide +kernel)))
    (ok_leaf (ok_iload_n (show decode cX11_goesThrough 90 = .ok (.iload_n 2, 1) by decide +kernel) rfl))))
    (ok_node
    (ok_leaf (ok_aload_n (show decode cX11_goesThrough 91 = .ok (.aload_n 0, 1) by decide +kernel) rfl))
    (ok_node
    (ok_leaf (ok_getfield (show decode cX11_goesThrough 92 = .ok (.getfield 219, 3) by decide +kernel) (Or.inl (fd_X11 (by decide) wd_712 rfl rfl))))
    (ok_leaf (ok_iconst (show decode cX11_goesThrough 95 = .ok (.iconst 1, 1) by decide +kernel) (by decide +kernel)))))))
    (ok_node
    (ok_node
    (ok_node
    (ok_leaf (ok_isub (show decode cX11_goesThrough 96 = .ok (.isub, 1) by decide +kernel)))
    (ok_node
    (ok_leaf (ok_icmp_ne (show decode cX11_goesThrough 97 = .ok (.if_icmp .ne 11, 3) by decide +kernel) (by decide +kernel)))
    (ok_leaf (ok_aload_n (show decode cX11_goesThrough 100 = .ok (.aload_n 0, 1) by decide +kernel) rfl))))
    (ok_node
    (ok_leaf (ok_iload_n (show decode cX11_goesThrough 101 = .ok (.iload_n 1, 1) by decide +kernel) rfl))
    (ok_node
    (ok_leaf (ok_callV (C := RX11) (T := TX11) (N := 31) (Mc := M_X11_meets) (show decode cX11_goesThrough 102 = .ok (.invokevirtual 259, 3) by decide +kernel) rfl (by decide) (by decide +kernel) rfl rfl wd_753 wd_754 wd_755 wd_558 wd_756 ⟨by decide +kernel, by decide +kernel, by decide +kernel⟩ (by decide)))
    (ok_leaf (ok_goto (show decode cX11_goesThrough 105 = .ok (.goto (-77), 3) by decide +kernel) (by decide +kernel))))))
    (ok_node
    (ok_node
    (ok_leaf (ok_iload_n (show decode cX11_goesThrough 108 = .ok (.iload_n 3, 1) by decide +kernel) rfl))
    (ok_node
    (ok_leaf (ok_aload_n (show decode cX11_goesThrough 109 = .ok (.aload_n 0, 1) by decide +kernel) rfl))
    (ok_leaf (ok_getfield (show decode cX11_goesThrough 110 = .ok (.getfield 43, 3) by decide +kernel) (Or.inr (fdF_X11 (by decide) wd_547 rfl rfl))))))
    (ok_node
    (ok_leaf (ok_aload_n (show decode cX11_goesThrough 113 = .ok (.aload_n 0, 1) by decide +kernel) rfl))
    (ok_node
    (ok_leaf (ok_getfield (show decode cX11_goesThrough 114 = .ok (.getfield 46, 3) by decide +kernel) (Or.inr (fdF_X11 (by decide) wd_548 rfl rfl))))
    (ok_leaf (ok_iload_n (show decode cX11_goesThrough 117 = .ok (.iload_n 2, 1) by decide +kernel) rfl)))))))
    (ok_node
    (ok_node
    (ok_node
    (ok_node
    (ok_leaf (ok_iaload (show decode cX11_goesThrough 118 = .ok (.iaload, 1) by decide +kernel)))
    (ok_node
    (ok_leaf (ok_iaload (show decode cX11_goesThrough 119 = .ok (.iaload, 1) by decide +kernel)))
    (ok_leaf (ok_callS (Mc := M_X11_sizeOf) (show decode cX11_goesThrough 120 = .ok (.invokestatic 234, 3) by decide +kernel) rfl (by decide) (by decide +kernel) wd_726 wd_727 wd_558 wd_728 ⟨by decide +kernel, by decide +kernel, by decide +kernel⟩ (by decide)))))
    (ok_node
    (ok_leaf (ok_isub (show decode cX11_goesThrough 123 = .ok (.isub, 1) by decide +kernel)))
    (ok_node
    (ok_leaf (ok_istore_n (show decode cX11_goesThrough 124 = .ok (.istore_n 3, 1) by decide +kernel) rfl))
    (ok_leaf (ok_iinc (show decode cX11_goesThrough 125 = .ok (.iinc 2 1, 3) by decide +kernel) (by decide +kernel))))))
    (ok_node
    (ok_node
    (ok_leaf (ok_aload_n (show decode cX11_goesThrough 128 = .ok (.aload_n 0, 1) by decide +kernel) rfl))
    (ok_node
    (ok_leaf (ok_getfield (show decode cX11_goesThrough 129 = .ok (.getfield 49, 3) by decide +kernel) (Or.inr (fdF_X11 (by decide) wd_549 rfl rfl))))
    (ok_leaf (ok_iload_n (show decode cX11_goesThrough 132 = .ok (.iload_n 2, 1) by decide +kernel) rfl))))
    (ok_node
    (ok_leaf (ok_aload_n (show decode cX11_goesThrough 133 = .ok (.aload_n 0, 1) by decide +kernel) rfl))
    (ok_node
    (ok_leaf (ok_getfield (show decode cX11_goesThrough 134 = .ok (.getfield 28, 3) by decide +kernel) (Or.inr (fdF_X11 (by decide) wd_542 rfl rfl))))
    (ok_leaf (ok_bipush (show decode cX11_goesThrough 137 = .ok (.bipush 7, 2) by decide +kernel) (by decide +kernel)))))))
    (ok_node
    (ok_node
    (ok_node
    (ok_leaf (ok_aload_n (show decode cX11_goesThrough 139 = .ok (.aload_n 0, 1) by decide +kernel) rfl))
    (ok_node
    (ok_leaf (ok_getfield (show decode cX11_goesThrough 140 = .ok (.getfield 46, 3) by decide +kernel) (Or.inr (fdF_X11 (by decide) wd_548 rfl rfl))))
    (ok_leaf (ok_iload_n (show decode cX11_goesThrough 143 = .ok (.iload_n 2, 1) by decide +kernel) rfl))))
    (ok_node
    (ok_leaf (ok_iaload (show decode cX11_goesThrough 144 = .ok (.iaload, 1) by decide +kernel)))
    (ok_node
    (ok_leaf (ok_iconst (show decode cX11_goesThrough 145 = .ok (.iconst 3, 1) by decide +kernel) (by decide +kernel)))
    (ok_leaf (ok_irem (show decode cX11_goesThrough 146 = .ok (.irem, 1) by decide +kernel))))))
    (ok_node
    (ok_node
    (ok_leaf (ok_imul (show decode cX11_goesThrough 147 = .ok (.imul, 1) by decide +kernel)))
    (ok_node
    (ok_leaf (ok_iaload (show decode cX11_goesThrough 148 = .ok (.iaload, 1) by decide +kernel)))
    (ok_leaf (ok_iconst (show decode cX11_goesThrough 149 = .ok (.iconst 1, 1) by decide +kernel) (by decide +kernel)))))
    (ok_node
    (ok_node
    (ok_leaf (ok_isub (show decode cX11_goesThrough 150 = .ok (.isub, 1) by decide +kernel)))
    (ok_leaf (ok_iastore (show decode cX11_goesThrough 151 = .ok (.iastore, 1) by decide +kernel))))
    (ok_node
    (ok_leaf (ok_goto (show decode cX11_goesThrough 152 = .ok (.goto (-124), 3) by decide +kernel) (by decide +kernel)))
    (ok_leaf (ok_return (show decode cX11_goesThrough 155 = .ok (.return_, 1) by decide +kernel) rfl))))))))
set_option maxRecDepth 20000 in
set_option maxHeartbeats 4000000 in
theorem ok_X11_solves {sc : List Int32} : ∀ pc, pOk mtOf 189 M_X11_solves false sc pc (cd_X11_solves pc) := by
  unfold cd_X11_solves
  exact ok_node
    (ok_node
    (ok_node
    (ok_node
    (ok_node
    (ok_leaf (ok_aload_n (show decode cX11_solves 0 = .ok (.aload_n 0, 1) by decide +kernel) rfl))
    (ok_leaf (ok_iconst (show decode cX11_solves 1 = .ok (.iconst 0, 1) by decide +kernel) (by decide +kernel))))
    (ok_node
    (ok_leaf (ok_putI (show decode cX11_solves 2 = .ok (.putfield 249, 3) by decide +kernel) (Or.inl (fd_X11 (by decide) wd_744 rfl rfl)) rfl))
    (ok_leaf (ok_aload_n (show decode cX11_solves 5 = .ok (.aload_n 0, 1) by decide +kernel) rfl))))
    (ok_node
    (ok_node
    (ok_leaf (ok_callV (C := RX11) (T := TX11) (N := 31) (Mc := M_X11_laysStanding) (show decode cX11_solves 6 = .ok (.invokevirtual 262, 3) by decide +kernel) rfl (by decide) (by decide +kernel) rfl rfl wd_757 wd_758 wd_759 wd_558 wd_760 ⟨by decide +kernel, by decide +kernel, by decide +kernel⟩ (by decide)))
    (ok_leaf (ok_iconst (show decode cX11_solves 9 = .ok (.iconst 0, 1) by decide +kernel) (by decide +kernel))))
    (ok_node
    (ok_leaf (ok_istore_n (show decode cX11_solves 10 = .ok (.istore_n 1, 1) by decide +kernel) rfl))
    (ok_node
    (ok_leaf (ok_iload_n (show decode cX11_solves 11 = .ok (.iload_n 1, 1) by decide +kernel) rfl))
    (ok_leaf (ok_bipush (show decode cX11_solves 12 = .ok (.bipush 6, 2) by decide +kernel) (by decide +kernel)))))))
    (ok_node
    (ok_node
    (ok_node
    (ok_leaf (ok_icmp_ge (show decode cX11_solves 14 = .ok (.if_icmp .ge 16, 3) by decide +kernel) (by decide +kernel)))
    (ok_leaf (ok_aload_n (show decode cX11_solves 17 = .ok (.aload_n 0, 1) by decide +kernel) rfl)))
    (ok_node
    (ok_leaf (ok_getfield (show decode cX11_solves 18 = .ok (.getfield 43, 3) by decide +kernel) (Or.inr (fdF_X11 (by decide) wd_547 rfl rfl))))
    (ok_node
    (ok_leaf (ok_iload_n (show decode cX11_solves 21 = .ok (.iload_n 1, 1) by decide +kernel) rfl))
    (ok_leaf (ok_iconst (show decode cX11_solves 22 = .ok (.iconst 0, 1) by decide +kernel) (by decide +kernel))))))
    (ok_node
    (ok_node
    (ok_leaf (ok_iastore (show decode cX11_solves 23 = .ok (.iastore, 1) by decide +kernel)))
    (ok_leaf (ok_iinc (show decode cX11_solves 24 = .ok (.iinc 1 1, 3) by decide +kernel) (by decide +kernel))))
    (ok_node
    (ok_leaf (ok_goto (show decode cX11_solves 27 = .ok (.goto (-16), 3) by decide +kernel) (by decide +kernel)))
    (ok_node
    (ok_leaf (ok_aload_n (show decode cX11_solves 30 = .ok (.aload_n 0, 1) by decide +kernel) rfl))
    (ok_leaf (ok_getfield (show decode cX11_solves 31 = .ok (.getfield 219, 3) by decide +kernel) (Or.inl (fd_X11 (by decide) wd_712 rfl rfl)))))))))
    (ok_node
    (ok_node
    (ok_node
    (ok_node
    (ok_leaf (ok_if_ne (show decode cX11_solves 34 = .ok (.ifCond .ne 8, 3) by decide +kernel) (by decide +kernel)))
    (ok_leaf (ok_aload_n (show decode cX11_solves 37 = .ok (.aload_n 0, 1) by decide +kernel) rfl)))
    (ok_node
    (ok_leaf (ok_iconst (show decode cX11_solves 38 = .ok (.iconst 0, 1) by decide +kernel) (by decide +kernel)))
    (ok_leaf (ok_callV (C := RX11) (T := TX11) (N := 31) (Mc := M_X11_meets) (show decode cX11_solves 39 = .ok (.invokevirtual 259, 3) by decide +kernel) rfl (by decide) (by decide +kernel) rfl rfl wd_753 wd_754 wd_755 wd_558 wd_756 ⟨by decide +kernel, by decide +kernel, by decide +kernel⟩ (by decide)))))
    (ok_node
    (ok_node
    (ok_leaf (ok_aload_n (show decode cX11_solves 42 = .ok (.aload_n 0, 1) by decide +kernel) rfl))
    (ok_leaf (ok_getfield (show decode cX11_solves 43 = .ok (.getfield 219, 3) by decide +kernel) (Or.inl (fd_X11 (by decide) wd_712 rfl rfl)))))
    (ok_node
    (ok_leaf (ok_istore_n (show decode cX11_solves 46 = .ok (.istore_n 1, 1) by decide +kernel) rfl))
    (ok_node
    (ok_leaf (ok_iload_n (show decode cX11_solves 47 = .ok (.iload_n 1, 1) by decide +kernel) rfl))
    (ok_leaf (ok_bipush (show decode cX11_solves 48 = .ok (.bipush 6, 2) by decide +kernel) (by decide +kernel)))))))
    (ok_node
    (ok_node
    (ok_node
    (ok_leaf (ok_icmp_gt (show decode cX11_solves 50 = .ok (.if_icmp .gt 21, 3) by decide +kernel) (by decide +kernel)))
    (ok_leaf (ok_aload_n (show decode cX11_solves 53 = .ok (.aload_n 0, 1) by decide +kernel) rfl)))
    (ok_node
    (ok_leaf (ok_getfield (show decode cX11_solves 54 = .ok (.getfield 219, 3) by decide +kernel) (Or.inl (fd_X11 (by decide) wd_712 rfl rfl))))
    (ok_node
    (ok_leaf (ok_if_le (show decode cX11_solves 57 = .ok (.ifCond .le 14, 3) by decide +kernel) (by decide +kernel)))
    (ok_leaf (ok_aload_n (show decode cX11_solves 60 = .ok (.aload_n 0, 1) by decide +kernel) rfl)))))
    (ok_node
    (ok_node
    (ok_leaf (ok_iload_n (show decode cX11_solves 61 = .ok (.iload_n 1, 1) by decide +kernel) rfl))
    (ok_leaf (ok_callV (C := RX11) (T := TX11) (N := 31) (Mc := M_X11_goesThrough) (show decode cX11_solves 62 = .ok (.invokevirtual 265, 3) by decide +kernel) rfl (by decide) (by decide +kernel) rfl rfl wd_761 wd_762 wd_763 wd_558 wd_764 ⟨by decide +kernel, by decide +kernel, by decide +kernel⟩ (by decide))))
    (ok_node
    (ok_leaf (ok_iinc (show decode cX11_solves 65 = .ok (.iinc 1 1, 3) by decide +kernel) (by decide +kernel)))
    (ok_node
    (ok_leaf (ok_goto (show decode cX11_solves 68 = .ok (.goto (-21), 3) by decide +kernel) (by decide +kernel)))
    (ok_leaf (ok_return (show decode cX11_solves 71 = .ok (.return_, 1) by decide +kernel) rfl)))))))
set_option maxRecDepth 20000 in
set_option maxHeartbeats 4000000 in
theorem ok_X11_solutions {sc : List Int32} : ∀ pc, pOk mtOf 189 M_X11_solutions false sc pc (cd_X11_solutions pc) := by
  unfold cd_X11_solutions
  exact ok_node
    (ok_node
    (ok_leaf (ok_aload_n (show decode cX11_solutions 0 = .ok (.aload_n 0, 1) by decide +kernel) rfl))
    (ok_leaf (ok_callV (C := RX11) (T := TX11) (N := 31) (Mc := M_X11_solves) (show decode cX11_solutions 1 = .ok (.invokevirtual 268, 3) by decide +kernel) rfl (by decide) (by decide +kernel) rfl rfl wd_765 wd_766 wd_767 wd_558 wd_768 ⟨by decide +kernel, by decide +kernel, by decide +kernel⟩ (by decide))))
    (ok_node
    (ok_leaf (ok_aload_n (show decode cX11_solutions 4 = .ok (.aload_n 0, 1) by decide +kernel) rfl))
    (ok_node
    (ok_leaf (ok_getfield (show decode cX11_solutions 5 = .ok (.getfield 249, 3) by decide +kernel) (Or.inl (fd_X11 (by decide) wd_744 rfl rfl))))
    (ok_leaf (ok_ireturn (show decode cX11_solutions 8 = .ok (.ireturn, 1) by decide +kernel) rfl))))
set_option maxRecDepth 20000 in
set_option maxHeartbeats 4000000 in
theorem ok_X11_size {sc : List Int32} : ∀ pc, pOk mtOf 189 M_X11_size false sc pc (cd_X11_size pc) := by
  unfold cd_X11_size
  exact ok_node
    (ok_node
    (ok_node
    (ok_node
    (ok_leaf (ok_iload_n (show decode cX11_size 0 = .ok (.iload_n 1, 1) by decide +kernel) rfl))
    (ok_leaf (ok_if_ge (show decode cX11_size 1 = .ok (.ifCond .ge 8, 3) by decide +kernel) (by decide +kernel))))
    (ok_node
    (ok_leaf (ok_aload_n (show decode cX11_size 4 = .ok (.aload_n 0, 1) by decide +kernel) rfl))
    (ok_leaf (ok_callV (C := RX11) (T := TX11) (N := 31) (Mc := M_X11_bad) (show decode cX11_size 5 = .ok (.invokevirtual 101, 3) by decide +kernel) rfl (by decide) (by decide +kernel) rfl rfl wd_580 wd_581 wd_582 wd_558 wd_583 ⟨by decide +kernel, by decide +kernel, by decide +kernel⟩ (by decide)))))
    (ok_node
    (ok_node
    (ok_leaf (ok_ireturn (show decode cX11_size 8 = .ok (.ireturn, 1) by decide +kernel) rfl))
    (ok_leaf (ok_aload_n (show decode cX11_size 9 = .ok (.aload_n 0, 1) by decide +kernel) rfl)))
    (ok_node
    (ok_leaf (ok_callV (C := RX11) (T := TX11) (N := 31) (Mc := M_X11_solves) (show decode cX11_size 10 = .ok (.invokevirtual 268, 3) by decide +kernel) rfl (by decide) (by decide +kernel) rfl rfl wd_765 wd_766 wd_767 wd_558 wd_768 ⟨by decide +kernel, by decide +kernel, by decide +kernel⟩ (by decide)))
    (ok_node
    (ok_leaf (ok_iload_n (show decode cX11_size 13 = .ok (.iload_n 1, 1) by decide +kernel) rfl))
    (ok_leaf (ok_aload_n (show decode cX11_size 14 = .ok (.aload_n 0, 1) by decide +kernel) rfl))))))
    (ok_node
    (ok_node
    (ok_node
    (ok_leaf (ok_getfield (show decode cX11_size 15 = .ok (.getfield 249, 3) by decide +kernel) (Or.inl (fd_X11 (by decide) wd_744 rfl rfl))))
    (ok_leaf (ok_icmp_ge (show decode cX11_size 18 = .ok (.if_icmp .ge 12, 3) by decide +kernel) (by decide +kernel))))
    (ok_node
    (ok_leaf (ok_aload_n (show decode cX11_size 21 = .ok (.aload_n 0, 1) by decide +kernel) rfl))
    (ok_node
    (ok_leaf (ok_getfield (show decode cX11_size 22 = .ok (.getfield 55, 3) by decide +kernel) (Or.inr (fdF_X11 (by decide) wd_551 rfl rfl))))
    (ok_leaf (ok_iload_n (show decode cX11_size 25 = .ok (.iload_n 1, 1) by decide +kernel) rfl)))))
    (ok_node
    (ok_node
    (ok_leaf (ok_iaload (show decode cX11_size 26 = .ok (.iaload, 1) by decide +kernel)))
    (ok_leaf (ok_goto (show decode cX11_size 27 = .ok (.goto 7, 3) by decide +kernel) (by decide +kernel))))
    (ok_node
    (ok_leaf (ok_aload_n (show decode cX11_size 30 = .ok (.aload_n 0, 1) by decide +kernel) rfl))
    (ok_node
    (ok_leaf (ok_callV (C := RX11) (T := TX11) (N := 31) (Mc := M_X11_no) (show decode cX11_size 31 = .ok (.invokevirtual 97, 3) by decide +kernel) rfl (by decide) (by decide +kernel) rfl rfl wd_576 wd_577 wd_578 wd_558 wd_579 ⟨by decide +kernel, by decide +kernel, by decide +kernel⟩ (by decide)))
    (ok_leaf (ok_ireturn (show decode cX11_size 34 = .ok (.ireturn, 1) by decide +kernel) rfl))))))
set_option maxRecDepth 20000 in
set_option maxHeartbeats 4000000 in
theorem ok_X11_writesBody {sc : List Int32} : ∀ pc, pOk mtOf 189 M_X11_writesBody false sc pc (cd_X11_writesBody pc) := by
  unfold cd_X11_writesBody
  exact ok_node
    (ok_node
    (ok_node
    (ok_node
    (ok_leaf (ok_aload_n (show decode cX11_writesBody 0 = .ok (.aload_n 0, 1) by decide +kernel) rfl))
    (ok_node
    (ok_leaf (ok_iconst (show decode cX11_writesBody 1 = .ok (.iconst 0, 1) by decide +kernel) (by decide +kernel)))
    (ok_leaf (ok_putI (show decode cX11_writesBody 2 = .ok (.putfield 171, 3) by decide +kernel) (Or.inl (fd_X11 (by decide) wd_658 rfl rfl)) rfl))))
    (ok_node
    (ok_leaf (ok_aload_n (show decode cX11_writesBody 5 = .ok (.aload_n 0, 1) by decide +kernel) rfl))
    (ok_node
    (ok_leaf (ok_iconst (show decode cX11_writesBody 6 = .ok (.iconst 0, 1) by decide +kernel) (by decide +kernel)))
    (ok_leaf (ok_putI (show decode cX11_writesBody 7 = .ok (.putfield 122, 3) by decide +kernel) (Or.inl (fd_X11 (by decide) wd_598 rfl rfl)) rfl)))))
    (ok_node
    (ok_node
    (ok_leaf (ok_iload_n (show decode cX11_writesBody 10 = .ok (.iload_n 1, 1) by decide +kernel) rfl))
    (ok_node
    (ok_leaf (ok_callS (Mc := M_X11_sizeOf) (show decode cX11_writesBody 11 = .ok (.invokestatic 234, 3) by decide +kernel) rfl (by decide) (by decide +kernel) wd_726 wd_727 wd_558 wd_728 ⟨by decide +kernel, by decide +kernel, by decide +kernel⟩ (by decide)))
    (ok_leaf (ok_istore_n (show decode cX11_writesBody 14 = .ok (.istore_n 2, 1) by decide +kernel) rfl))))
    (ok_node
    (ok_leaf (ok_iconst (show decode cX11_writesBody 15 = .ok (.iconst 0, 1) by decide +kernel) (by decide +kernel)))
    (ok_node
    (ok_leaf (ok_istore_n (show decode cX11_writesBody 16 = .ok (.istore_n 3, 1) by decide +kernel) rfl))
    (ok_leaf (ok_iload_n (show decode cX11_writesBody 17 = .ok (.iload_n 3, 1) by decide +kernel) rfl))))))
    (ok_node
    (ok_node
    (ok_node
    (ok_leaf (ok_iload_n (show decode cX11_writesBody 18 = .ok (.iload_n 2, 1) by decide +kernel) rfl))
    (ok_node
    (ok_leaf (ok_icmp_ge (show decode cX11_writesBody 19 = .ok (.if_icmp .ge 22, 3) by decide +kernel) (by decide +kernel)))
    (ok_leaf (ok_aload_n (show decode cX11_writesBody 22 = .ok (.aload_n 0, 1) by decide +kernel) rfl))))
    (ok_node
    (ok_leaf (ok_iload_n (show decode cX11_writesBody 23 = .ok (.iload_n 1, 1) by decide +kernel) rfl))
    (ok_node
    (ok_leaf (ok_iload_n (show decode cX11_writesBody 24 = .ok (.iload_n 2, 1) by decide +kernel) rfl))
    (ok_leaf (ok_iload_n (show decode cX11_writesBody 25 = .ok (.iload_n 3, 1) by decide +kernel) rfl)))))
    (ok_node
    (ok_node
    (ok_leaf (ok_callS (Mc := M_X11_signAt) (show decode cX11_writesBody 26 = .ok (.invokestatic 78, 3) by decide +kernel) rfl (by decide) (by decide +kernel) wd_563 wd_564 wd_558 wd_565 ⟨by decide +kernel, by decide +kernel, by decide +kernel⟩ (by decide)))
    (ok_node
    (ok_leaf (ok_callS (Mc := M_X11_byteOf) (show decode cX11_writesBody 29 = .ok (.invokestatic 237, 3) by decide +kernel) rfl (by decide) (by decide +kernel) wd_729 wd_730 wd_558 wd_731 ⟨by decide +kernel, by decide +kernel, by decide +kernel⟩ (by decide)))
    (ok_leaf (ok_callV (C := RX11) (T := TX11) (N := 31) (Mc := M_X11_writesLetter) (show decode cX11_writesBody 32 = .ok (.invokevirtual 178, 3) by decide +kernel) rfl (by decide) (by decide +kernel) rfl rfl wd_663 wd_664 wd_665 wd_558 wd_666 ⟨by decide +kernel, by decide +kernel, by decide +kernel⟩ (by decide)))))
    (ok_node
    (ok_leaf (ok_iinc (show decode cX11_writesBody 35 = .ok (.iinc 3 1, 3) by decide +kernel) (by decide +kernel)))
    (ok_node
    (ok_leaf (ok_goto (show decode cX11_writesBody 38 = .ok (.goto (-21), 3) by decide +kernel) (by decide +kernel)))
    (ok_leaf (ok_return (show decode cX11_writesBody 41 = .ok (.return_, 1) by decide +kernel) rfl))))))
set_option maxRecDepth 20000 in
set_option maxHeartbeats 4000000 in
theorem ok_X11_body {sc : List Int32} : ∀ pc, pOk mtOf 189 M_X11_body false sc pc (cd_X11_body pc) := by
  unfold cd_X11_body
  exact ok_node
    (ok_node
    (ok_node
    (ok_node
    (ok_node
    (ok_leaf (ok_iload_n (show decode cX11_body 0 = .ok (.iload_n 1, 1) by decide +kernel) rfl))
    (ok_node
    (ok_leaf (ok_if_lt (show decode cX11_body 1 = .ok (.ifCond .lt 17, 3) by decide +kernel) (by decide +kernel)))
    (ok_leaf (ok_iload_n (show decode cX11_body 4 = .ok (.iload_n 2, 1) by decide +kernel) rfl))))
    (ok_node
    (ok_leaf (ok_iconst (show decode cX11_body 5 = .ok (.iconst 0, 1) by decide +kernel) (by decide +kernel)))
    (ok_node
    (ok_leaf (ok_iconst (show decode cX11_body 6 = .ok (.iconst 5, 1) by decide +kernel) (by decide +kernel)))
    (ok_leaf (ok_callS (Mc := M_X11_within) (show decode cX11_body 7 = .ok (.invokestatic 82, 3) by decide +kernel) rfl (by decide) (by decide +kernel) wd_566 wd_567 wd_558 wd_568 ⟨by decide +kernel, by decide +kernel, by decide +kernel⟩ (by decide))))))
    (ok_node
    (ok_node
    (ok_leaf (ok_if_eq (show decode cX11_body 10 = .ok (.ifCond .eq 8, 3) by decide +kernel) (by decide +kernel)))
    (ok_node
    (ok_leaf (ok_iload_n (show decode cX11_body 13 = .ok (.iload_n 3, 1) by decide +kernel) rfl))
    (ok_leaf (ok_iconst (show decode cX11_body 14 = .ok (.iconst (-1), 1) by decide +kernel) (by decide +kernel)))))
    (ok_node
    (ok_leaf (ok_icmp_ge (show decode cX11_body 15 = .ok (.if_icmp .ge 8, 3) by decide +kernel) (by decide +kernel)))
    (ok_node
    (ok_leaf (ok_aload_n (show decode cX11_body 18 = .ok (.aload_n 0, 1) by decide +kernel) rfl))
    (ok_leaf (ok_callV (C := RX11) (T := TX11) (N := 31) (Mc := M_X11_bad) (show decode cX11_body 19 = .ok (.invokevirtual 101, 3) by decide +kernel) rfl (by decide) (by decide +kernel) rfl rfl wd_580 wd_581 wd_582 wd_558 wd_583 ⟨by decide +kernel, by decide +kernel, by decide +kernel⟩ (by decide)))))))
    (ok_node
    (ok_node
    (ok_node
    (ok_leaf (ok_ireturn (show decode cX11_body 22 = .ok (.ireturn, 1) by decide +kernel) rfl))
    (ok_node
    (ok_leaf (ok_aload_n (show decode cX11_body 23 = .ok (.aload_n 0, 1) by decide +kernel) rfl))
    (ok_leaf (ok_callV (C := RX11) (T := TX11) (N := 31) (Mc := M_X11_solves) (show decode cX11_body 24 = .ok (.invokevirtual 268, 3) by decide +kernel) rfl (by decide) (by decide +kernel) rfl rfl wd_765 wd_766 wd_767 wd_558 wd_768 ⟨by decide +kernel, by decide +kernel, by decide +kernel⟩ (by decide)))))
    (ok_node
    (ok_leaf (ok_iload_n (show decode cX11_body 27 = .ok (.iload_n 1, 1) by decide +kernel) rfl))
    (ok_node
    (ok_leaf (ok_aload_n (show decode cX11_body 28 = .ok (.aload_n 0, 1) by decide +kernel) rfl))
    (ok_leaf (ok_getfield (show decode cX11_body 29 = .ok (.getfield 249, 3) by decide +kernel) (Or.inl (fd_X11 (by decide) wd_744 rfl rfl)))))))
    (ok_node
    (ok_node
    (ok_leaf (ok_icmp_lt (show decode cX11_body 32 = .ok (.if_icmp .lt 8, 3) by decide +kernel) (by decide +kernel)))
    (ok_node
    (ok_leaf (ok_aload_n (show decode cX11_body 35 = .ok (.aload_n 0, 1) by decide +kernel) rfl))
    (ok_leaf (ok_callV (C := RX11) (T := TX11) (N := 31) (Mc := M_X11_no) (show decode cX11_body 36 = .ok (.invokevirtual 97, 3) by decide +kernel) rfl (by decide) (by decide +kernel) rfl rfl wd_576 wd_577 wd_578 wd_558 wd_579 ⟨by decide +kernel, by decide +kernel, by decide +kernel⟩ (by decide)))))
    (ok_node
    (ok_leaf (ok_ireturn (show decode cX11_body 39 = .ok (.ireturn, 1) by decide +kernel) rfl))
    (ok_node
    (ok_leaf (ok_aload_n (show decode cX11_body 40 = .ok (.aload_n 0, 1) by decide +kernel) rfl))
    (ok_leaf (ok_getfield (show decode cX11_body 41 = .ok (.getfield 52, 3) by decide +kernel) (Or.inr (fdF_X11 (by decide) wd_550 rfl rfl)))))))))
    (ok_node
    (ok_node
    (ok_node
    (ok_node
    (ok_leaf (ok_bipush (show decode cX11_body 44 = .ok (.bipush 6, 2) by decide +kernel) (by decide +kernel)))
    (ok_node
    (ok_leaf (ok_iload_n (show decode cX11_body 46 = .ok (.iload_n 1, 1) by decide +kernel) rfl))
    (ok_leaf (ok_imul (show decode cX11_body 47 = .ok (.imul, 1) by decide +kernel)))))
    (ok_node
    (ok_leaf (ok_iload_n (show decode cX11_body 48 = .ok (.iload_n 2, 1) by decide +kernel) rfl))
    (ok_node
    (ok_leaf (ok_iadd (show decode cX11_body 49 = .ok (.iadd, 1) by decide +kernel)))
    (ok_leaf (ok_iaload (show decode cX11_body 50 = .ok (.iaload, 1) by decide +kernel))))))
    (ok_node
    (ok_node
    (ok_leaf (ok_istore (show decode cX11_body 51 = .ok (.istore 4, 2) by decide +kernel)))
    (ok_node
    (ok_leaf (ok_iload (show decode cX11_body 53 = .ok (.iload 4, 2) by decide +kernel)))
    (ok_leaf (ok_if_ne (show decode cX11_body 55 = .ok (.ifCond .ne 6, 3) by decide +kernel) (by decide +kernel)))))
    (ok_node
    (ok_leaf (ok_bipush (show decode cX11_body 58 = .ok (.bipush (-5), 2) by decide +kernel) (by decide +kernel)))
    (ok_node
    (ok_leaf (ok_ireturn (show decode cX11_body 60 = .ok (.ireturn, 1) by decide +kernel) rfl))
    (ok_leaf (ok_aload_n (show decode cX11_body 61 = .ok (.aload_n 0, 1) by decide +kernel) rfl))))))
    (ok_node
    (ok_node
    (ok_node
    (ok_leaf (ok_iload (show decode cX11_body 62 = .ok (.iload 4, 2) by decide +kernel)))
    (ok_node
    (ok_leaf (ok_callV (C := RX11) (T := TX11) (N := 31) (Mc := M_X11_writesBody) (show decode cX11_body 64 = .ok (.invokevirtual 271, 3) by decide +kernel) rfl (by decide) (by decide +kernel) rfl rfl wd_769 wd_770 wd_771 wd_558 wd_772 ⟨by decide +kernel, by decide +kernel, by decide +kernel⟩ (by decide)))
    (ok_leaf (ok_iload_n (show decode cX11_body 67 = .ok (.iload_n 3, 1) by decide +kernel) rfl))))
    (ok_node
    (ok_leaf (ok_iconst (show decode cX11_body 68 = .ok (.iconst (-1), 1) by decide +kernel) (by decide +kernel)))
    (ok_node
    (ok_leaf (ok_icmp_ne (show decode cX11_body 69 = .ok (.if_icmp .ne 11, 3) by decide +kernel) (by decide +kernel)))
    (ok_leaf (ok_iload (show decode cX11_body 72 = .ok (.iload 4, 2) by decide +kernel))))))
    (ok_node
    (ok_node
    (ok_leaf (ok_callS (Mc := M_X11_sizeOf) (show decode cX11_body 74 = .ok (.invokestatic 234, 3) by decide +kernel) rfl (by decide) (by decide +kernel) wd_726 wd_727 wd_558 wd_728 ⟨by decide +kernel, by decide +kernel, by decide +kernel⟩ (by decide)))
    (ok_node
    (ok_leaf (ok_goto (show decode cX11_body 77 = .ok (.goto 8, 3) by decide +kernel) (by decide +kernel)))
    (ok_leaf (ok_aload_n (show decode cX11_body 80 = .ok (.aload_n 0, 1) by decide +kernel) rfl))))
    (ok_node
    (ok_leaf (ok_iload_n (show decode cX11_body 81 = .ok (.iload_n 3, 1) by decide +kernel) rfl))
    (ok_node
    (ok_leaf (ok_callV (C := RX11) (T := TX11) (N := 31) (Mc := M_X11_writtenAt) (show decode cX11_body 82 = .ok (.invokevirtual 185, 3) by decide +kernel) rfl (by decide) (by decide +kernel) rfl rfl wd_671 wd_672 wd_673 wd_558 wd_674 ⟨by decide +kernel, by decide +kernel, by decide +kernel⟩ (by decide)))
    (ok_leaf (ok_ireturn (show decode cX11_body 85 = .ok (.ireturn, 1) by decide +kernel) rfl)))))))
set_option maxRecDepth 20000 in
set_option maxHeartbeats 4000000 in
theorem ok_X11_becomes {sc : List Int32} : ∀ pc, pOk mtOf 189 M_X11_becomes false sc pc (cd_X11_becomes pc) := by
  unfold cd_X11_becomes
  exact ok_node
    (ok_node
    (ok_node
    (ok_node
    (ok_node
    (ok_node
    (ok_leaf (ok_iload_n (show decode cX11_becomes 0 = .ok (.iload_n 1, 1) by decide +kernel) rfl))
    (ok_leaf (ok_if_lt (show decode cX11_becomes 1 = .ok (.ifCond .lt 24, 3) by decide +kernel) (by decide +kernel))))
    (ok_node
    (ok_leaf (ok_aload_n (show decode cX11_becomes 4 = .ok (.aload_n 0, 1) by decide +kernel) rfl))
    (ok_leaf (ok_iload_n (show decode cX11_becomes 5 = .ok (.iload_n 2, 1) by decide +kernel) rfl))))
    (ok_node
    (ok_node
    (ok_leaf (ok_callV (C := RX11) (T := TX11) (N := 31) (Mc := M_X11_isEquation) (show decode cX11_becomes 6 = .ok (.invokevirtual 147, 3) by decide +kernel) rfl (by decide) (by decide +kernel) rfl rfl wd_627 wd_628 wd_629 wd_558 wd_630 ⟨by decide +kernel, by decide +kernel, by decide +kernel⟩ (by decide)))
    (ok_leaf (ok_if_eq (show decode cX11_becomes 9 = .ok (.ifCond .eq 16, 3) by decide +kernel) (by decide +kernel))))
    (ok_node
    (ok_leaf (ok_iload_n (show decode cX11_becomes 12 = .ok (.iload_n 3, 1) by decide +kernel) rfl))
    (ok_leaf (ok_callS (Mc := M_X11_isSide) (show decode cX11_becomes 13 = .ok (.invokestatic 165, 3) by decide +kernel) rfl (by decide) (by decide +kernel) wd_651 wd_652 wd_558 wd_653 ⟨by decide +kernel, by decide +kernel, by decide +kernel⟩ (by decide))))))
    (ok_node
    (ok_node
    (ok_node
    (ok_leaf (ok_if_eq (show decode cX11_becomes 16 = .ok (.ifCond .eq 9, 3) by decide +kernel) (by decide +kernel)))
    (ok_leaf (ok_iload (show decode cX11_becomes 19 = .ok (.iload 4, 2) by decide +kernel))))
    (ok_node
    (ok_leaf (ok_iconst (show decode cX11_becomes 21 = .ok (.iconst (-1), 1) by decide +kernel) (by decide +kernel)))
    (ok_leaf (ok_icmp_ge (show decode cX11_becomes 22 = .ok (.if_icmp .ge 8, 3) by decide +kernel) (by decide +kernel)))))
    (ok_node
    (ok_node
    (ok_leaf (ok_aload_n (show decode cX11_becomes 25 = .ok (.aload_n 0, 1) by decide +kernel) rfl))
    (ok_leaf (ok_callV (C := RX11) (T := TX11) (N := 31) (Mc := M_X11_bad) (show decode cX11_becomes 26 = .ok (.invokevirtual 101, 3) by decide +kernel) rfl (by decide) (by decide +kernel) rfl rfl wd_580 wd_581 wd_582 wd_558 wd_583 ⟨by decide +kernel, by decide +kernel, by decide +kernel⟩ (by decide))))
    (ok_node
    (ok_leaf (ok_ireturn (show decode cX11_becomes 29 = .ok (.ireturn, 1) by decide +kernel) rfl))
    (ok_leaf (ok_aload_n (show decode cX11_becomes 30 = .ok (.aload_n 0, 1) by decide +kernel) rfl))))))
    (ok_node
    (ok_node
    (ok_node
    (ok_node
    (ok_leaf (ok_callV (C := RX11) (T := TX11) (N := 31) (Mc := M_X11_solves) (show decode cX11_becomes 31 = .ok (.invokevirtual 268, 3) by decide +kernel) rfl (by decide) (by decide +kernel) rfl rfl wd_765 wd_766 wd_767 wd_558 wd_768 ⟨by decide +kernel, by decide +kernel, by decide +kernel⟩ (by decide)))
    (ok_leaf (ok_iload_n (show decode cX11_becomes 34 = .ok (.iload_n 1, 1) by decide +kernel) rfl)))
    (ok_node
    (ok_leaf (ok_aload_n (show decode cX11_becomes 35 = .ok (.aload_n 0, 1) by decide +kernel) rfl))
    (ok_leaf (ok_getfield (show decode cX11_becomes 36 = .ok (.getfield 249, 3) by decide +kernel) (Or.inl (fd_X11 (by decide) wd_744 rfl rfl))))))
    (ok_node
    (ok_node
    (ok_leaf (ok_icmp_lt (show decode cX11_becomes 39 = .ok (.if_icmp .lt 8, 3) by decide +kernel) (by decide +kernel)))
    (ok_leaf (ok_aload_n (show decode cX11_becomes 42 = .ok (.aload_n 0, 1) by decide +kernel) rfl)))
    (ok_node
    (ok_leaf (ok_callV (C := RX11) (T := TX11) (N := 31) (Mc := M_X11_no) (show decode cX11_becomes 43 = .ok (.invokevirtual 97, 3) by decide +kernel) rfl (by decide) (by decide +kernel) rfl rfl wd_576 wd_577 wd_578 wd_558 wd_579 ⟨by decide +kernel, by decide +kernel, by decide +kernel⟩ (by decide)))
    (ok_leaf (ok_ireturn (show decode cX11_becomes 46 = .ok (.ireturn, 1) by decide +kernel) rfl)))))
    (ok_node
    (ok_node
    (ok_node
    (ok_leaf (ok_iconst (show decode cX11_becomes 47 = .ok (.iconst 0, 1) by decide +kernel) (by decide +kernel)))
    (ok_leaf (ok_istore (show decode cX11_becomes 48 = .ok (.istore 5, 2) by decide +kernel))))
    (ok_node
    (ok_leaf (ok_iload (show decode cX11_becomes 50 = .ok (.iload 5, 2) by decide +kernel)))
    (ok_leaf (ok_bipush (show decode cX11_becomes 52 = .ok (.bipush 6, 2) by decide +kernel) (by decide +kernel)))))
    (ok_node
    (ok_node
    (ok_leaf (ok_icmp_ge (show decode cX11_becomes 54 = .ok (.if_icmp .ge 28, 3) by decide +kernel) (by decide +kernel)))
    (ok_leaf (ok_aload_n (show decode cX11_becomes 57 = .ok (.aload_n 0, 1) by decide +kernel) rfl)))
    (ok_node
    (ok_leaf (ok_getfield (show decode cX11_becomes 58 = .ok (.getfield 43, 3) by decide +kernel) (Or.inr (fdF_X11 (by decide) wd_547 rfl rfl))))
    (ok_leaf (ok_iload (show decode cX11_becomes 61 = .ok (.iload 5, 2) by decide +kernel))))))))
    (ok_node
    (ok_node
    (ok_node
    (ok_node
    (ok_node
    (ok_leaf (ok_aload_n (show decode cX11_becomes 63 = .ok (.aload_n 0, 1) by decide +kernel) rfl))
    (ok_leaf (ok_getfield (show decode cX11_becomes 64 = .ok (.getfield 52, 3) by decide +kernel) (Or.inr (fdF_X11 (by decide) wd_550 rfl rfl)))))
    (ok_node
    (ok_leaf (ok_bipush (show decode cX11_becomes 67 = .ok (.bipush 6, 2) by decide +kernel) (by decide +kernel)))
    (ok_leaf (ok_iload_n (show decode cX11_becomes 69 = .ok (.iload_n 1, 1) by decide +kernel) rfl))))
    (ok_node
    (ok_node
    (ok_leaf (ok_imul (show decode cX11_becomes 70 = .ok (.imul, 1) by decide +kernel)))
    (ok_leaf (ok_iload (show decode cX11_becomes 71 = .ok (.iload 5, 2) by decide +kernel))))
    (ok_node
    (ok_leaf (ok_iadd (show decode cX11_becomes 73 = .ok (.iadd, 1) by decide +kernel)))
    (ok_leaf (ok_iaload (show decode cX11_becomes 74 = .ok (.iaload, 1) by decide +kernel))))))
    (ok_node
    (ok_node
    (ok_node
    (ok_leaf (ok_iastore (show decode cX11_becomes 75 = .ok (.iastore, 1) by decide +kernel)))
    (ok_leaf (ok_iinc (show decode cX11_becomes 76 = .ok (.iinc 5 1, 3) by decide +kernel) (by decide +kernel))))
    (ok_node
    (ok_leaf (ok_goto (show decode cX11_becomes 79 = .ok (.goto (-29), 3) by decide +kernel) (by decide +kernel)))
    (ok_leaf (ok_aload_n (show decode cX11_becomes 82 = .ok (.aload_n 0, 1) by decide +kernel) rfl))))
    (ok_node
    (ok_node
    (ok_leaf (ok_iload_n (show decode cX11_becomes 83 = .ok (.iload_n 2, 1) by decide +kernel) rfl))
    (ok_leaf (ok_iload_n (show decode cX11_becomes 84 = .ok (.iload_n 3, 1) by decide +kernel) rfl)))
    (ok_node
    (ok_leaf (ok_iconst (show decode cX11_becomes 85 = .ok (.iconst 0, 1) by decide +kernel) (by decide +kernel)))
    (ok_leaf (ok_callV (C := RX11) (T := TX11) (N := 31) (Mc := M_X11_builds) (show decode cX11_becomes 86 = .ok (.invokevirtual 243, 3) by decide +kernel) rfl (by decide) (by decide +kernel) rfl rfl wd_736 wd_737 wd_738 wd_558 wd_739 ⟨by decide +kernel, by decide +kernel, by decide +kernel⟩ (by decide)))))))
    (ok_node
    (ok_node
    (ok_node
    (ok_node
    (ok_leaf (ok_istore (show decode cX11_becomes 89 = .ok (.istore 5, 2) by decide +kernel)))
    (ok_leaf (ok_iload (show decode cX11_becomes 91 = .ok (.iload 4, 2) by decide +kernel))))
    (ok_node
    (ok_leaf (ok_iconst (show decode cX11_becomes 93 = .ok (.iconst (-1), 1) by decide +kernel) (by decide +kernel)))
    (ok_leaf (ok_icmp_ne (show decode cX11_becomes 94 = .ok (.if_icmp .ne 8, 3) by decide +kernel) (by decide +kernel)))))
    (ok_node
    (ok_node
    (ok_leaf (ok_iload (show decode cX11_becomes 97 = .ok (.iload 5, 2) by decide +kernel)))
    (ok_leaf (ok_goto (show decode cX11_becomes 99 = .ok (.goto 22, 3) by decide +kernel) (by decide +kernel))))
    (ok_node
    (ok_leaf (ok_iload (show decode cX11_becomes 102 = .ok (.iload 4, 2) by decide +kernel)))
    (ok_leaf (ok_iload (show decode cX11_becomes 104 = .ok (.iload 5, 2) by decide +kernel))))))
    (ok_node
    (ok_node
    (ok_node
    (ok_leaf (ok_icmp_ge (show decode cX11_becomes 106 = .ok (.if_icmp .ge 13, 3) by decide +kernel) (by decide +kernel)))
    (ok_leaf (ok_aload_n (show decode cX11_becomes 109 = .ok (.aload_n 0, 1) by decide +kernel) rfl)))
    (ok_node
    (ok_leaf (ok_getfield (show decode cX11_becomes 110 = .ok (.getfield 67, 3) by decide +kernel) (Or.inr (fdF_X11 (by decide) wd_555 rfl rfl))))
    (ok_leaf (ok_iload (show decode cX11_becomes 113 = .ok (.iload 4, 2) by decide +kernel)))))
    (ok_node
    (ok_node
    (ok_leaf (ok_iaload (show decode cX11_becomes 115 = .ok (.iaload, 1) by decide +kernel)))
    (ok_leaf (ok_goto (show decode cX11_becomes 116 = .ok (.goto 5, 3) by decide +kernel) (by decide +kernel))))
    (ok_node
    (ok_leaf (ok_bipush (show decode cX11_becomes 119 = .ok (.bipush (-5), 2) by decide +kernel) (by decide +kernel)))
    (ok_leaf (ok_ireturn (show decode cX11_becomes 121 = .ok (.ireturn, 1) by decide +kernel) rfl)))))))
set_option maxRecDepth 20000 in
set_option maxHeartbeats 4000000 in
theorem ok_X11_bodies {sc : List Int32} : ∀ pc, pOk mtOf 189 M_X11_bodies false sc pc (cd_X11_bodies pc) := by
  unfold cd_X11_bodies
  exact ok_node
    (ok_node
    (ok_node
    (ok_node
    (ok_node
    (ok_leaf (ok_iload_n (show decode cX11_bodies 0 = .ok (.iload_n 1, 1) by decide +kernel) rfl))
    (ok_leaf (ok_iconst (show decode cX11_bodies 1 = .ok (.iconst 0, 1) by decide +kernel) (by decide +kernel))))
    (ok_node
    (ok_leaf (ok_iconst (show decode cX11_bodies 2 = .ok (.iconst 5, 1) by decide +kernel) (by decide +kernel)))
    (ok_leaf (ok_callS (Mc := M_X11_within) (show decode cX11_bodies 3 = .ok (.invokestatic 82, 3) by decide +kernel) rfl (by decide) (by decide +kernel) wd_566 wd_567 wd_558 wd_568 ⟨by decide +kernel, by decide +kernel, by decide +kernel⟩ (by decide)))))
    (ok_node
    (ok_node
    (ok_leaf (ok_if_eq (show decode cX11_bodies 6 = .ok (.ifCond .eq 13, 3) by decide +kernel) (by decide +kernel)))
    (ok_leaf (ok_iload_n (show decode cX11_bodies 9 = .ok (.iload_n 2, 1) by decide +kernel) rfl)))
    (ok_node
    (ok_leaf (ok_iconst (show decode cX11_bodies 10 = .ok (.iconst 1, 1) by decide +kernel) (by decide +kernel)))
    (ok_node
    (ok_leaf (ok_bipush (show decode cX11_bodies 11 = .ok (.bipush 6, 2) by decide +kernel) (by decide +kernel)))
    (ok_leaf (ok_callS (Mc := M_X11_within) (show decode cX11_bodies 13 = .ok (.invokestatic 82, 3) by decide +kernel) rfl (by decide) (by decide +kernel) wd_566 wd_567 wd_558 wd_568 ⟨by decide +kernel, by decide +kernel, by decide +kernel⟩ (by decide)))))))
    (ok_node
    (ok_node
    (ok_node
    (ok_leaf (ok_if_ne (show decode cX11_bodies 16 = .ok (.ifCond .ne 8, 3) by decide +kernel) (by decide +kernel)))
    (ok_leaf (ok_aload_n (show decode cX11_bodies 19 = .ok (.aload_n 0, 1) by decide +kernel) rfl)))
    (ok_node
    (ok_leaf (ok_callV (C := RX11) (T := TX11) (N := 31) (Mc := M_X11_bad) (show decode cX11_bodies 20 = .ok (.invokevirtual 101, 3) by decide +kernel) rfl (by decide) (by decide +kernel) rfl rfl wd_580 wd_581 wd_582 wd_558 wd_583 ⟨by decide +kernel, by decide +kernel, by decide +kernel⟩ (by decide)))
    (ok_leaf (ok_ireturn (show decode cX11_bodies 23 = .ok (.ireturn, 1) by decide +kernel) rfl))))
    (ok_node
    (ok_node
    (ok_leaf (ok_aload_n (show decode cX11_bodies 24 = .ok (.aload_n 0, 1) by decide +kernel) rfl))
    (ok_leaf (ok_getfield (show decode cX11_bodies 25 = .ok (.getfield 28, 3) by decide +kernel) (Or.inr (fdF_X11 (by decide) wd_542 rfl rfl)))))
    (ok_node
    (ok_leaf (ok_bipush (show decode cX11_bodies 28 = .ok (.bipush 7, 2) by decide +kernel) (by decide +kernel)))
    (ok_node
    (ok_leaf (ok_iload_n (show decode cX11_bodies 30 = .ok (.iload_n 1, 1) by decide +kernel) rfl))
    (ok_leaf (ok_iconst (show decode cX11_bodies 31 = .ok (.iconst 3, 1) by decide +kernel) (by decide +kernel))))))))
    (ok_node
    (ok_node
    (ok_node
    (ok_node
    (ok_leaf (ok_irem (show decode cX11_bodies 32 = .ok (.irem, 1) by decide +kernel)))
    (ok_leaf (ok_imul (show decode cX11_bodies 33 = .ok (.imul, 1) by decide +kernel))))
    (ok_node
    (ok_leaf (ok_iload_n (show decode cX11_bodies 34 = .ok (.iload_n 2, 1) by decide +kernel) rfl))
    (ok_leaf (ok_iadd (show decode cX11_bodies 35 = .ok (.iadd, 1) by decide +kernel)))))
    (ok_node
    (ok_node
    (ok_leaf (ok_iaload (show decode cX11_bodies 36 = .ok (.iaload, 1) by decide +kernel)))
    (ok_leaf (ok_aload_n (show decode cX11_bodies 37 = .ok (.aload_n 0, 1) by decide +kernel) rfl)))
    (ok_node
    (ok_leaf (ok_getfield (show decode cX11_bodies 38 = .ok (.getfield 28, 3) by decide +kernel) (Or.inr (fdF_X11 (by decide) wd_542 rfl rfl))))
    (ok_node
    (ok_leaf (ok_bipush (show decode cX11_bodies 41 = .ok (.bipush 7, 2) by decide +kernel) (by decide +kernel)))
    (ok_leaf (ok_iload_n (show decode cX11_bodies 43 = .ok (.iload_n 1, 1) by decide +kernel) rfl))))))
    (ok_node
    (ok_node
    (ok_node
    (ok_leaf (ok_iconst (show decode cX11_bodies 44 = .ok (.iconst 3, 1) by decide +kernel) (by decide +kernel)))
    (ok_leaf (ok_irem (show decode cX11_bodies 45 = .ok (.irem, 1) by decide +kernel))))
    (ok_node
    (ok_leaf (ok_imul (show decode cX11_bodies 46 = .ok (.imul, 1) by decide +kernel)))
    (ok_node
    (ok_leaf (ok_iload_n (show decode cX11_bodies 47 = .ok (.iload_n 2, 1) by decide +kernel) rfl))
    (ok_leaf (ok_iadd (show decode cX11_bodies 48 = .ok (.iadd, 1) by decide +kernel))))))
    (ok_node
    (ok_node
    (ok_leaf (ok_iconst (show decode cX11_bodies 49 = .ok (.iconst 1, 1) by decide +kernel) (by decide +kernel)))
    (ok_leaf (ok_isub (show decode cX11_bodies 50 = .ok (.isub, 1) by decide +kernel))))
    (ok_node
    (ok_leaf (ok_iaload (show decode cX11_bodies 51 = .ok (.iaload, 1) by decide +kernel)))
    (ok_node
    (ok_leaf (ok_isub (show decode cX11_bodies 52 = .ok (.isub, 1) by decide +kernel)))
    (ok_leaf (ok_ireturn (show decode cX11_bodies 53 = .ok (.ireturn, 1) by decide +kernel) rfl)))))))
set_option maxRecDepth 20000 in
set_option maxHeartbeats 4000000 in
theorem ok_X11_toldOf {sc : List Int32} : ∀ pc, pOk mtOf 189 M_X11_toldOf false sc pc (cd_X11_toldOf pc) := by
  unfold cd_X11_toldOf
  exact ok_node
    (ok_node
    (ok_node
    (ok_node
    (ok_leaf (ok_iload_n (show decode cX11_toldOf 0 = .ok (.iload_n 1, 1) by decide +kernel) rfl))
    (ok_node
    (ok_leaf (ok_table (show decode cX11_toldOf 1 = .ok (.tableswitch 68 3 7 #[35, 40, 47, 52, 63], 35) by decide +kernel) (by decide +kernel) (by decide +kernel) (by decide +kernel) (by decide +kernel)))
    (ok_leaf (ok_aload_n (show decode cX11_toldOf 36 = .ok (.aload_n 0, 1) by decide +kernel) rfl))))
    (ok_node
    (ok_leaf (ok_getfield (show decode cX11_toldOf 37 = .ok (.getfield 104, 3) by decide +kernel) (Or.inl (fd_X11 (by decide) wd_584 rfl rfl))))
    (ok_node
    (ok_leaf (ok_ireturn (show decode cX11_toldOf 40 = .ok (.ireturn, 1) by decide +kernel) rfl))
    (ok_leaf (ok_aload_n (show decode cX11_toldOf 41 = .ok (.aload_n 0, 1) by decide +kernel) rfl)))))
    (ok_node
    (ok_node
    (ok_leaf (ok_getfield (show decode cX11_toldOf 42 = .ok (.getfield 7, 3) by decide +kernel) (Or.inr (fdF_X11 (by decide) wd_536 rfl rfl))))
    (ok_node
    (ok_leaf (ok_iconst (show decode cX11_toldOf 45 = .ok (.iconst 0, 1) by decide +kernel) (by decide +kernel)))
    (ok_leaf (ok_iaload (show decode cX11_toldOf 46 = .ok (.iaload, 1) by decide +kernel)))))
    (ok_node
    (ok_node
    (ok_leaf (ok_ireturn (show decode cX11_toldOf 47 = .ok (.ireturn, 1) by decide +kernel) rfl))
    (ok_leaf (ok_aload_n (show decode cX11_toldOf 48 = .ok (.aload_n 0, 1) by decide +kernel) rfl)))
    (ok_node
    (ok_leaf (ok_callV (C := RX11) (T := TX11) (N := 31) (Mc := M_X11_allLetters) (show decode cX11_toldOf 49 = .ok (.invokevirtual 216, 3) by decide +kernel) rfl (by decide) (by decide +kernel) rfl rfl wd_708 wd_709 wd_710 wd_558 wd_711 ⟨by decide +kernel, by decide +kernel, by decide +kernel⟩ (by decide)))
    (ok_leaf (ok_ireturn (show decode cX11_toldOf 52 = .ok (.ireturn, 1) by decide +kernel) rfl))))))
    (ok_node
    (ok_node
    (ok_node
    (ok_leaf (ok_aload_n (show decode cX11_toldOf 53 = .ok (.aload_n 0, 1) by decide +kernel) rfl))
    (ok_node
    (ok_leaf (ok_bipush (show decode cX11_toldOf 54 = .ok (.bipush 9, 2) by decide +kernel) (by decide +kernel)))
    (ok_leaf (ok_aload_n (show decode cX11_toldOf 56 = .ok (.aload_n 0, 1) by decide +kernel) rfl))))
    (ok_node
    (ok_node
    (ok_leaf (ok_callV (C := RX11) (T := TX11) (N := 31) (Mc := M_X11_allLetters) (show decode cX11_toldOf 57 = .ok (.invokevirtual 216, 3) by decide +kernel) rfl (by decide) (by decide +kernel) rfl rfl wd_708 wd_709 wd_710 wd_558 wd_711 ⟨by decide +kernel, by decide +kernel, by decide +kernel⟩ (by decide)))
    (ok_leaf (ok_callV (C := RX11) (T := TX11) (N := 31) (Mc := M_X11_flexIn) (show decode cX11_toldOf 60 = .ok (.invokevirtual 159, 3) by decide +kernel) rfl (by decide) (by decide +kernel) rfl rfl wd_643 wd_644 wd_645 wd_558 wd_646 ⟨by decide +kernel, by decide +kernel, by decide +kernel⟩ (by decide))))
    (ok_node
    (ok_leaf (ok_ireturn (show decode cX11_toldOf 63 = .ok (.ireturn, 1) by decide +kernel) rfl))
    (ok_leaf (ok_aload_n (show decode cX11_toldOf 64 = .ok (.aload_n 0, 1) by decide +kernel) rfl)))))
    (ok_node
    (ok_node
    (ok_leaf (ok_getfield (show decode cX11_toldOf 65 = .ok (.getfield 93, 3) by decide +kernel) (Or.inl (fd_X11 (by decide) wd_575 rfl rfl))))
    (ok_node
    (ok_leaf (ok_ireturn (show decode cX11_toldOf 68 = .ok (.ireturn, 1) by decide +kernel) rfl))
    (ok_leaf (ok_aload_n (show decode cX11_toldOf 69 = .ok (.aload_n 0, 1) by decide +kernel) rfl))))
    (ok_node
    (ok_node
    (ok_leaf (ok_getfield (show decode cX11_toldOf 70 = .ok (.getfield 19, 3) by decide +kernel) (Or.inr (fdF_X11 (by decide) wd_539 rfl rfl))))
    (ok_leaf (ok_iload_n (show decode cX11_toldOf 73 = .ok (.iload_n 1, 1) by decide +kernel) rfl)))
    (ok_node
    (ok_leaf (ok_iaload (show decode cX11_toldOf 74 = .ok (.iaload, 1) by decide +kernel)))
    (ok_leaf (ok_ireturn (show decode cX11_toldOf 75 = .ok (.ireturn, 1) by decide +kernel) rfl))))))
set_option maxRecDepth 20000 in
set_option maxHeartbeats 4000000 in
theorem ok_X11_told {sc : List Int32} : ∀ pc, pOk mtOf 189 M_X11_told false sc pc (cd_X11_told pc) := by
  unfold cd_X11_told
  exact ok_node
    (ok_node
    (ok_node
    (ok_leaf (ok_iload_n (show decode cX11_told 0 = .ok (.iload_n 1, 1) by decide +kernel) rfl))
    (ok_node
    (ok_leaf (ok_iconst (show decode cX11_told 1 = .ok (.iconst 0, 1) by decide +kernel) (by decide +kernel)))
    (ok_leaf (ok_bipush (show decode cX11_told 2 = .ok (.bipush 7, 2) by decide +kernel) (by decide +kernel)))))
    (ok_node
    (ok_leaf (ok_callS (Mc := M_X11_within) (show decode cX11_told 4 = .ok (.invokestatic 82, 3) by decide +kernel) rfl (by decide) (by decide +kernel) wd_566 wd_567 wd_558 wd_568 ⟨by decide +kernel, by decide +kernel, by decide +kernel⟩ (by decide)))
    (ok_node
    (ok_leaf (ok_if_eq (show decode cX11_told 7 = .ok (.ifCond .eq 11, 3) by decide +kernel) (by decide +kernel)))
    (ok_leaf (ok_aload_n (show decode cX11_told 10 = .ok (.aload_n 0, 1) by decide +kernel) rfl)))))
    (ok_node
    (ok_node
    (ok_leaf (ok_iload_n (show decode cX11_told 11 = .ok (.iload_n 1, 1) by decide +kernel) rfl))
    (ok_node
    (ok_leaf (ok_callV (C := RX11) (T := TX11) (N := 31) (Mc := M_X11_toldOf) (show decode cX11_told 12 = .ok (.invokevirtual 274, 3) by decide +kernel) rfl (by decide) (by decide +kernel) rfl rfl wd_773 wd_774 wd_775 wd_558 wd_776 ⟨by decide +kernel, by decide +kernel, by decide +kernel⟩ (by decide)))
    (ok_leaf (ok_goto (show decode cX11_told 15 = .ok (.goto 7, 3) by decide +kernel) (by decide +kernel)))))
    (ok_node
    (ok_leaf (ok_aload_n (show decode cX11_told 18 = .ok (.aload_n 0, 1) by decide +kernel) rfl))
    (ok_node
    (ok_leaf (ok_callV (C := RX11) (T := TX11) (N := 31) (Mc := M_X11_bad) (show decode cX11_told 19 = .ok (.invokevirtual 101, 3) by decide +kernel) rfl (by decide) (by decide +kernel) rfl rfl wd_580 wd_581 wd_582 wd_558 wd_583 ⟨by decide +kernel, by decide +kernel, by decide +kernel⟩ (by decide)))
    (ok_leaf (ok_ireturn (show decode cX11_told 22 = .ok (.ireturn, 1) by decide +kernel) rfl)))))
set_option maxRecDepth 20000 in
set_option maxHeartbeats 4000000 in
theorem ok_X11_mix {sc : List Int32} : ∀ pc, pOk mtOf 189 M_X11_mix false sc pc (cd_X11_mix pc) := by
  unfold cd_X11_mix
  exact ok_node
    (ok_node
    (ok_node
    (ok_leaf (ok_aload_n (show decode cX11_mix 0 = .ok (.aload_n 0, 1) by decide +kernel) rfl))
    (ok_leaf (ok_ldc2 (show decode cX11_mix 1 = .ok (.ldc2_w 277, 3) by decide +kernel) wd_777)))
    (ok_node
    (ok_leaf (ok_aload_n (show decode cX11_mix 4 = .ok (.aload_n 0, 1) by decide +kernel) rfl))
    (ok_node
    (ok_leaf (ok_getfield (show decode cX11_mix 5 = .ok (.getfield 279, 3) by decide +kernel) (Or.inl (fd_X11 (by decide) wd_778 rfl rfl))))
    (ok_leaf (ok_lmul (show decode cX11_mix 8 = .ok (.lmul, 1) by decide +kernel))))))
    (ok_node
    (ok_node
    (ok_leaf (ok_iload_n (show decode cX11_mix 9 = .ok (.iload_n 1, 1) by decide +kernel) rfl))
    (ok_leaf (ok_i2l (show decode cX11_mix 10 = .ok (.i2l, 1) by decide +kernel))))
    (ok_node
    (ok_leaf (ok_ladd (show decode cX11_mix 11 = .ok (.ladd, 1) by decide +kernel)))
    (ok_node
    (ok_leaf (ok_putJ (show decode cX11_mix 12 = .ok (.putfield 279, 3) by decide +kernel) (Or.inl (fd_X11 (by decide) wd_778 rfl rfl)) rfl))
    (ok_leaf (ok_return (show decode cX11_mix 15 = .ok (.return_, 1) by decide +kernel) rfl)))))
set_option maxRecDepth 20000 in
set_option maxHeartbeats 4000000 in
theorem ok_X11_mixSolution {sc : List Int32} : ∀ pc, pOk mtOf 189 M_X11_mixSolution false sc pc (cd_X11_mixSolution pc) := by
  unfold cd_X11_mixSolution
  exact ok_node
    (ok_node
    (ok_node
    (ok_node
    (ok_node
    (ok_leaf (ok_aload_n (show decode cX11_mixSolution 0 = .ok (.aload_n 0, 1) by decide +kernel) rfl))
    (ok_leaf (ok_aload_n (show decode cX11_mixSolution 1 = .ok (.aload_n 0, 1) by decide +kernel) rfl)))
    (ok_node
    (ok_leaf (ok_getfield (show decode cX11_mixSolution 2 = .ok (.getfield 55, 3) by decide +kernel) (Or.inr (fdF_X11 (by decide) wd_551 rfl rfl))))
    (ok_leaf (ok_iload_n (show decode cX11_mixSolution 5 = .ok (.iload_n 1, 1) by decide +kernel) rfl))))
    (ok_node
    (ok_node
    (ok_leaf (ok_iaload (show decode cX11_mixSolution 6 = .ok (.iaload, 1) by decide +kernel)))
    (ok_leaf (ok_callV (C := RX11) (T := TX11) (N := 31) (Mc := M_X11_mix) (show decode cX11_mixSolution 7 = .ok (.invokevirtual 283, 3) by decide +kernel) rfl (by decide) (by decide +kernel) rfl rfl wd_779 wd_780 wd_781 wd_558 wd_782 ⟨by decide +kernel, by decide +kernel, by decide +kernel⟩ (by decide))))
    (ok_node
    (ok_leaf (ok_iconst (show decode cX11_mixSolution 10 = .ok (.iconst 0, 1) by decide +kernel) (by decide +kernel)))
    (ok_node
    (ok_leaf (ok_istore_n (show decode cX11_mixSolution 11 = .ok (.istore_n 2, 1) by decide +kernel) rfl))
    (ok_leaf (ok_iload_n (show decode cX11_mixSolution 12 = .ok (.iload_n 2, 1) by decide +kernel) rfl))))))
    (ok_node
    (ok_node
    (ok_node
    (ok_leaf (ok_bipush (show decode cX11_mixSolution 13 = .ok (.bipush 6, 2) by decide +kernel) (by decide +kernel)))
    (ok_leaf (ok_icmp_ge (show decode cX11_mixSolution 15 = .ok (.if_icmp .ge 50, 3) by decide +kernel) (by decide +kernel))))
    (ok_node
    (ok_leaf (ok_aload_n (show decode cX11_mixSolution 18 = .ok (.aload_n 0, 1) by decide +kernel) rfl))
    (ok_node
    (ok_leaf (ok_aload_n (show decode cX11_mixSolution 19 = .ok (.aload_n 0, 1) by decide +kernel) rfl))
    (ok_leaf (ok_getfield (show decode cX11_mixSolution 20 = .ok (.getfield 52, 3) by decide +kernel) (Or.inr (fdF_X11 (by decide) wd_550 rfl rfl)))))))
    (ok_node
    (ok_node
    (ok_leaf (ok_bipush (show decode cX11_mixSolution 23 = .ok (.bipush 6, 2) by decide +kernel) (by decide +kernel)))
    (ok_leaf (ok_iload_n (show decode cX11_mixSolution 25 = .ok (.iload_n 1, 1) by decide +kernel) rfl)))
    (ok_node
    (ok_leaf (ok_imul (show decode cX11_mixSolution 26 = .ok (.imul, 1) by decide +kernel)))
    (ok_node
    (ok_leaf (ok_iload_n (show decode cX11_mixSolution 27 = .ok (.iload_n 2, 1) by decide +kernel) rfl))
    (ok_leaf (ok_iadd (show decode cX11_mixSolution 28 = .ok (.iadd, 1) by decide +kernel))))))))
    (ok_node
    (ok_node
    (ok_node
    (ok_node
    (ok_leaf (ok_iaload (show decode cX11_mixSolution 29 = .ok (.iaload, 1) by decide +kernel)))
    (ok_leaf (ok_callV (C := RX11) (T := TX11) (N := 31) (Mc := M_X11_writesBody) (show decode cX11_mixSolution 30 = .ok (.invokevirtual 271, 3) by decide +kernel) rfl (by decide) (by decide +kernel) rfl rfl wd_769 wd_770 wd_771 wd_558 wd_772 ⟨by decide +kernel, by decide +kernel, by decide +kernel⟩ (by decide))))
    (ok_node
    (ok_leaf (ok_iconst (show decode cX11_mixSolution 33 = .ok (.iconst 0, 1) by decide +kernel) (by decide +kernel)))
    (ok_leaf (ok_istore_n (show decode cX11_mixSolution 34 = .ok (.istore_n 3, 1) by decide +kernel) rfl))))
    (ok_node
    (ok_node
    (ok_leaf (ok_iload_n (show decode cX11_mixSolution 35 = .ok (.iload_n 3, 1) by decide +kernel) rfl))
    (ok_leaf (ok_aload_n (show decode cX11_mixSolution 36 = .ok (.aload_n 0, 1) by decide +kernel) rfl)))
    (ok_node
    (ok_leaf (ok_getfield (show decode cX11_mixSolution 37 = .ok (.getfield 171, 3) by decide +kernel) (Or.inl (fd_X11 (by decide) wd_658 rfl rfl))))
    (ok_node
    (ok_leaf (ok_icmp_ge (show decode cX11_mixSolution 40 = .ok (.if_icmp .ge 19, 3) by decide +kernel) (by decide +kernel)))
    (ok_leaf (ok_aload_n (show decode cX11_mixSolution 43 = .ok (.aload_n 0, 1) by decide +kernel) rfl))))))
    (ok_node
    (ok_node
    (ok_node
    (ok_leaf (ok_aload_n (show decode cX11_mixSolution 44 = .ok (.aload_n 0, 1) by decide +kernel) rfl))
    (ok_leaf (ok_getfield (show decode cX11_mixSolution 45 = .ok (.getfield 34, 3) by decide +kernel) (Or.inr (fdF_X11 (by decide) wd_544 rfl rfl)))))
    (ok_node
    (ok_leaf (ok_iload_n (show decode cX11_mixSolution 48 = .ok (.iload_n 3, 1) by decide +kernel) rfl))
    (ok_node
    (ok_leaf (ok_iaload (show decode cX11_mixSolution 49 = .ok (.iaload, 1) by decide +kernel)))
    (ok_leaf (ok_callV (C := RX11) (T := TX11) (N := 31) (Mc := M_X11_mix) (show decode cX11_mixSolution 50 = .ok (.invokevirtual 283, 3) by decide +kernel) rfl (by decide) (by decide +kernel) rfl rfl wd_779 wd_780 wd_781 wd_558 wd_782 ⟨by decide +kernel, by decide +kernel, by decide +kernel⟩ (by decide))))))
    (ok_node
    (ok_node
    (ok_leaf (ok_iinc (show decode cX11_mixSolution 53 = .ok (.iinc 3 1, 3) by decide +kernel) (by decide +kernel)))
    (ok_leaf (ok_goto (show decode cX11_mixSolution 56 = .ok (.goto (-21), 3) by decide +kernel) (by decide +kernel))))
    (ok_node
    (ok_leaf (ok_iinc (show decode cX11_mixSolution 59 = .ok (.iinc 2 1, 3) by decide +kernel) (by decide +kernel)))
    (ok_node
    (ok_leaf (ok_goto (show decode cX11_mixSolution 62 = .ok (.goto (-50), 3) by decide +kernel) (by decide +kernel)))
    (ok_leaf (ok_return (show decode cX11_mixSolution 65 = .ok (.return_, 1) by decide +kernel) rfl)))))))
set_option maxRecDepth 20000 in
set_option maxHeartbeats 4000000 in
theorem ok_X11_digest {sc : List Int32} : ∀ pc, pOk mtOf 189 M_X11_digest false sc pc (cd_X11_digest pc) := by
  unfold cd_X11_digest
  exact ok_node
    (ok_node
    (ok_node
    (ok_node
    (ok_node
    (ok_node
    (ok_leaf (ok_aload_n (show decode cX11_digest 0 = .ok (.aload_n 0, 1) by decide +kernel) rfl))
    (ok_leaf (ok_ldc2 (show decode cX11_digest 1 = .ok (.ldc2_w 286, 3) by decide +kernel) wd_783)))
    (ok_node
    (ok_leaf (ok_putJ (show decode cX11_digest 4 = .ok (.putfield 279, 3) by decide +kernel) (Or.inl (fd_X11 (by decide) wd_778 rfl rfl)) rfl))
    (ok_leaf (ok_iconst (show decode cX11_digest 7 = .ok (.iconst 0, 1) by decide +kernel) (by decide +kernel)))))
    (ok_node
    (ok_node
    (ok_leaf (ok_istore_n (show decode cX11_digest 8 = .ok (.istore_n 1, 1) by decide +kernel) rfl))
    (ok_leaf (ok_iload_n (show decode cX11_digest 9 = .ok (.iload_n 1, 1) by decide +kernel) rfl)))
    (ok_node
    (ok_leaf (ok_bipush (show decode cX11_digest 10 = .ok (.bipush 8, 2) by decide +kernel) (by decide +kernel)))
    (ok_node
    (ok_leaf (ok_icmp_ge (show decode cX11_digest 12 = .ok (.if_icmp .ge 18, 3) by decide +kernel) (by decide +kernel)))
    (ok_leaf (ok_aload_n (show decode cX11_digest 15 = .ok (.aload_n 0, 1) by decide +kernel) rfl))))))
    (ok_node
    (ok_node
    (ok_node
    (ok_leaf (ok_aload_n (show decode cX11_digest 16 = .ok (.aload_n 0, 1) by decide +kernel) rfl))
    (ok_leaf (ok_iload_n (show decode cX11_digest 17 = .ok (.iload_n 1, 1) by decide +kernel) rfl)))
    (ok_node
    (ok_leaf (ok_callV (C := RX11) (T := TX11) (N := 31) (Mc := M_X11_toldOf) (show decode cX11_digest 18 = .ok (.invokevirtual 274, 3) by decide +kernel) rfl (by decide) (by decide +kernel) rfl rfl wd_773 wd_774 wd_775 wd_558 wd_776 ⟨by decide +kernel, by decide +kernel, by decide +kernel⟩ (by decide)))
    (ok_leaf (ok_callV (C := RX11) (T := TX11) (N := 31) (Mc := M_X11_mix) (show decode cX11_digest 21 = .ok (.invokevirtual 283, 3) by decide +kernel) rfl (by decide) (by decide +kernel) rfl rfl wd_779 wd_780 wd_781 wd_558 wd_782 ⟨by decide +kernel, by decide +kernel, by decide +kernel⟩ (by decide)))))
    (ok_node
    (ok_node
    (ok_leaf (ok_iinc (show decode cX11_digest 24 = .ok (.iinc 1 1, 3) by decide +kernel) (by decide +kernel)))
    (ok_leaf (ok_goto (show decode cX11_digest 27 = .ok (.goto (-18), 3) by decide +kernel) (by decide +kernel))))
    (ok_node
    (ok_leaf (ok_iconst (show decode cX11_digest 30 = .ok (.iconst 0, 1) by decide +kernel) (by decide +kernel)))
    (ok_node
    (ok_leaf (ok_istore_n (show decode cX11_digest 31 = .ok (.istore_n 1, 1) by decide +kernel) rfl))
    (ok_leaf (ok_iload_n (show decode cX11_digest 32 = .ok (.iload_n 1, 1) by decide +kernel) rfl)))))))
    (ok_node
    (ok_node
    (ok_node
    (ok_node
    (ok_leaf (ok_bipush (show decode cX11_digest 33 = .ok (.bipush 8, 2) by decide +kernel) (by decide +kernel)))
    (ok_leaf (ok_aload_n (show decode cX11_digest 35 = .ok (.aload_n 0, 1) by decide +kernel) rfl)))
    (ok_node
    (ok_leaf (ok_getfield (show decode cX11_digest 36 = .ok (.getfield 7, 3) by decide +kernel) (Or.inr (fdF_X11 (by decide) wd_536 rfl rfl))))
    (ok_leaf (ok_iconst (show decode cX11_digest 39 = .ok (.iconst 0, 1) by decide +kernel) (by decide +kernel)))))
    (ok_node
    (ok_node
    (ok_leaf (ok_iaload (show decode cX11_digest 40 = .ok (.iaload, 1) by decide +kernel)))
    (ok_leaf (ok_imul (show decode cX11_digest 41 = .ok (.imul, 1) by decide +kernel))))
    (ok_node
    (ok_leaf (ok_icmp_ge (show decode cX11_digest 42 = .ok (.if_icmp .ge 29, 3) by decide +kernel) (by decide +kernel)))
    (ok_node
    (ok_leaf (ok_aload_n (show decode cX11_digest 45 = .ok (.aload_n 0, 1) by decide +kernel) rfl))
    (ok_leaf (ok_aload_n (show decode cX11_digest 46 = .ok (.aload_n 0, 1) by decide +kernel) rfl))))))
    (ok_node
    (ok_node
    (ok_node
    (ok_leaf (ok_iload_n (show decode cX11_digest 47 = .ok (.iload_n 1, 1) by decide +kernel) rfl))
    (ok_leaf (ok_bipush (show decode cX11_digest 48 = .ok (.bipush 8, 2) by decide +kernel) (by decide +kernel))))
    (ok_node
    (ok_leaf (ok_idiv (show decode cX11_digest 50 = .ok (.idiv, 1) by decide +kernel)))
    (ok_node
    (ok_leaf (ok_iload_n (show decode cX11_digest 51 = .ok (.iload_n 1, 1) by decide +kernel) rfl))
    (ok_leaf (ok_iconst (show decode cX11_digest 52 = .ok (.iconst 4, 1) by decide +kernel) (by decide +kernel))))))
    (ok_node
    (ok_node
    (ok_leaf (ok_idiv (show decode cX11_digest 53 = .ok (.idiv, 1) by decide +kernel)))
    (ok_leaf (ok_iconst (show decode cX11_digest 54 = .ok (.iconst 2, 1) by decide +kernel) (by decide +kernel))))
    (ok_node
    (ok_leaf (ok_irem (show decode cX11_digest 55 = .ok (.irem, 1) by decide +kernel)))
    (ok_node
    (ok_leaf (ok_iload_n (show decode cX11_digest 56 = .ok (.iload_n 1, 1) by decide +kernel) rfl))
    (ok_leaf (ok_iconst (show decode cX11_digest 57 = .ok (.iconst 4, 1) by decide +kernel) (by decide +kernel)))))))))
    (ok_node
    (ok_node
    (ok_node
    (ok_node
    (ok_node
    (ok_leaf (ok_irem (show decode cX11_digest 58 = .ok (.irem, 1) by decide +kernel)))
    (ok_leaf (ok_callV (C := RX11) (T := TX11) (N := 31) (Mc := M_X11_ofSide) (show decode cX11_digest 59 = .ok (.invokevirtual 168, 3) by decide +kernel) rfl (by decide) (by decide +kernel) rfl rfl wd_654 wd_655 wd_656 wd_558 wd_657 ⟨by decide +kernel, by decide +kernel, by decide +kernel⟩ (by decide))))
    (ok_node
    (ok_leaf (ok_callV (C := RX11) (T := TX11) (N := 31) (Mc := M_X11_mix) (show decode cX11_digest 62 = .ok (.invokevirtual 283, 3) by decide +kernel) rfl (by decide) (by decide +kernel) rfl rfl wd_779 wd_780 wd_781 wd_558 wd_782 ⟨by decide +kernel, by decide +kernel, by decide +kernel⟩ (by decide)))
    (ok_leaf (ok_iinc (show decode cX11_digest 65 = .ok (.iinc 1 1, 3) by decide +kernel) (by decide +kernel)))))
    (ok_node
    (ok_node
    (ok_leaf (ok_goto (show decode cX11_digest 68 = .ok (.goto (-36), 3) by decide +kernel) (by decide +kernel)))
    (ok_leaf (ok_iconst (show decode cX11_digest 71 = .ok (.iconst 0, 1) by decide +kernel) (by decide +kernel))))
    (ok_node
    (ok_leaf (ok_istore_n (show decode cX11_digest 72 = .ok (.istore_n 1, 1) by decide +kernel) rfl))
    (ok_node
    (ok_leaf (ok_iload_n (show decode cX11_digest 73 = .ok (.iload_n 1, 1) by decide +kernel) rfl))
    (ok_leaf (ok_iconst (show decode cX11_digest 74 = .ok (.iconst 4, 1) by decide +kernel) (by decide +kernel)))))))
    (ok_node
    (ok_node
    (ok_node
    (ok_leaf (ok_icmp_ge (show decode cX11_digest 75 = .ok (.if_icmp .ge 18, 3) by decide +kernel) (by decide +kernel)))
    (ok_leaf (ok_aload_n (show decode cX11_digest 78 = .ok (.aload_n 0, 1) by decide +kernel) rfl)))
    (ok_node
    (ok_leaf (ok_aload_n (show decode cX11_digest 79 = .ok (.aload_n 0, 1) by decide +kernel) rfl))
    (ok_leaf (ok_iload_n (show decode cX11_digest 80 = .ok (.iload_n 1, 1) by decide +kernel) rfl))))
    (ok_node
    (ok_node
    (ok_leaf (ok_callV (C := RX11) (T := TX11) (N := 31) (Mc := M_X11_tellPairs) (show decode cX11_digest 81 = .ok (.invokevirtual 210, 3) by decide +kernel) rfl (by decide) (by decide +kernel) rfl rfl wd_700 wd_701 wd_702 wd_558 wd_703 ⟨by decide +kernel, by decide +kernel, by decide +kernel⟩ (by decide)))
    (ok_leaf (ok_callV (C := RX11) (T := TX11) (N := 31) (Mc := M_X11_mix) (show decode cX11_digest 84 = .ok (.invokevirtual 283, 3) by decide +kernel) rfl (by decide) (by decide +kernel) rfl rfl wd_779 wd_780 wd_781 wd_558 wd_782 ⟨by decide +kernel, by decide +kernel, by decide +kernel⟩ (by decide))))
    (ok_node
    (ok_leaf (ok_iinc (show decode cX11_digest 87 = .ok (.iinc 1 1, 3) by decide +kernel) (by decide +kernel)))
    (ok_node
    (ok_leaf (ok_goto (show decode cX11_digest 90 = .ok (.goto (-17), 3) by decide +kernel) (by decide +kernel)))
    (ok_leaf (ok_aload_n (show decode cX11_digest 93 = .ok (.aload_n 0, 1) by decide +kernel) rfl)))))))
    (ok_node
    (ok_node
    (ok_node
    (ok_node
    (ok_leaf (ok_callV (C := RX11) (T := TX11) (N := 31) (Mc := M_X11_solves) (show decode cX11_digest 94 = .ok (.invokevirtual 268, 3) by decide +kernel) rfl (by decide) (by decide +kernel) rfl rfl wd_765 wd_766 wd_767 wd_558 wd_768 ⟨by decide +kernel, by decide +kernel, by decide +kernel⟩ (by decide)))
    (ok_leaf (ok_aload_n (show decode cX11_digest 97 = .ok (.aload_n 0, 1) by decide +kernel) rfl)))
    (ok_node
    (ok_leaf (ok_aload_n (show decode cX11_digest 98 = .ok (.aload_n 0, 1) by decide +kernel) rfl))
    (ok_leaf (ok_getfield (show decode cX11_digest 99 = .ok (.getfield 249, 3) by decide +kernel) (Or.inl (fd_X11 (by decide) wd_744 rfl rfl))))))
    (ok_node
    (ok_node
    (ok_leaf (ok_callV (C := RX11) (T := TX11) (N := 31) (Mc := M_X11_mix) (show decode cX11_digest 102 = .ok (.invokevirtual 283, 3) by decide +kernel) rfl (by decide) (by decide +kernel) rfl rfl wd_779 wd_780 wd_781 wd_558 wd_782 ⟨by decide +kernel, by decide +kernel, by decide +kernel⟩ (by decide)))
    (ok_leaf (ok_iconst (show decode cX11_digest 105 = .ok (.iconst 0, 1) by decide +kernel) (by decide +kernel))))
    (ok_node
    (ok_leaf (ok_istore_n (show decode cX11_digest 106 = .ok (.istore_n 1, 1) by decide +kernel) rfl))
    (ok_node
    (ok_leaf (ok_iload_n (show decode cX11_digest 107 = .ok (.iload_n 1, 1) by decide +kernel) rfl))
    (ok_leaf (ok_aload_n (show decode cX11_digest 108 = .ok (.aload_n 0, 1) by decide +kernel) rfl))))))
    (ok_node
    (ok_node
    (ok_node
    (ok_leaf (ok_getfield (show decode cX11_digest 109 = .ok (.getfield 249, 3) by decide +kernel) (Or.inl (fd_X11 (by decide) wd_744 rfl rfl))))
    (ok_leaf (ok_icmp_ge (show decode cX11_digest 112 = .ok (.if_icmp .ge 14, 3) by decide +kernel) (by decide +kernel))))
    (ok_node
    (ok_leaf (ok_aload_n (show decode cX11_digest 115 = .ok (.aload_n 0, 1) by decide +kernel) rfl))
    (ok_node
    (ok_leaf (ok_iload_n (show decode cX11_digest 116 = .ok (.iload_n 1, 1) by decide +kernel) rfl))
    (ok_leaf (ok_callV (C := RX11) (T := TX11) (N := 31) (Mc := M_X11_mixSolution) (show decode cX11_digest 117 = .ok (.invokevirtual 288, 3) by decide +kernel) rfl (by decide) (by decide +kernel) rfl rfl wd_784 wd_785 wd_786 wd_558 wd_787 ⟨by decide +kernel, by decide +kernel, by decide +kernel⟩ (by decide))))))
    (ok_node
    (ok_node
    (ok_leaf (ok_iinc (show decode cX11_digest 120 = .ok (.iinc 1 1, 3) by decide +kernel) (by decide +kernel)))
    (ok_leaf (ok_goto (show decode cX11_digest 123 = .ok (.goto (-16), 3) by decide +kernel) (by decide +kernel))))
    (ok_node
    (ok_leaf (ok_aload_n (show decode cX11_digest 126 = .ok (.aload_n 0, 1) by decide +kernel) rfl))
    (ok_node
    (ok_leaf (ok_getfield (show decode cX11_digest 127 = .ok (.getfield 279, 3) by decide +kernel) (Or.inl (fd_X11 (by decide) wd_778 rfl rfl))))
    (ok_leaf (ok_lreturn (show decode cX11_digest 130 = .ok (.lreturn, 1) by decide +kernel) rfl))))))))
