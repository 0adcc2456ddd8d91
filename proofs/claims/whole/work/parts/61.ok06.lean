set_option maxRecDepth 20000 in
set_option maxHeartbeats 4000000 in
theorem ok_X11_drops {sc : List Int32} : ∀ pc, pOk mtOf 189 M_X11_drops false sc pc (cd_X11_drops pc) := by
  unfold cd_X11_drops
  exact ok_node
    (ok_node
    (ok_node
    (ok_node
    (ok_node
    (ok_node
    (ok_leaf (ok_aload_n (show decode cX11_drops 0 = .ok (.aload_n 0, 1) by decide +kernel) rfl))
    (ok_leaf (ok_iload_n (show decode cX11_drops 1 = .ok (.iload_n 1, 1) by decide +kernel) rfl)))
    (ok_node
    (ok_leaf (ok_callV (C := RX11) (T := TX11) (N := 31) (Mc := M_X11_isEquation) (show decode cX11_drops 2 = .ok (.invokevirtual 147, 3) by decide +kernel) rfl (by decide) (by decide +kernel) rfl rfl wd_627 wd_628 wd_629 wd_558 wd_630 ⟨by decide +kernel, by decide +kernel, by decide +kernel⟩ (by decide)))
    (ok_node
    (ok_leaf (ok_if_ne (show decode cX11_drops 5 = .ok (.ifCond .ne 8, 3) by decide +kernel) (by decide +kernel)))
    (ok_leaf (ok_aload_n (show decode cX11_drops 8 = .ok (.aload_n 0, 1) by decide +kernel) rfl)))))
    (ok_node
    (ok_node
    (ok_leaf (ok_callV (C := RX11) (T := TX11) (N := 31) (Mc := M_X11_bad) (show decode cX11_drops 9 = .ok (.invokevirtual 101, 3) by decide +kernel) rfl (by decide) (by decide +kernel) rfl rfl wd_580 wd_581 wd_582 wd_558 wd_583 ⟨by decide +kernel, by decide +kernel, by decide +kernel⟩ (by decide)))
    (ok_node
    (ok_leaf (ok_ireturn (show decode cX11_drops 12 = .ok (.ireturn, 1) by decide +kernel) rfl))
    (ok_leaf (ok_aload_n (show decode cX11_drops 13 = .ok (.aload_n 0, 1) by decide +kernel) rfl))))
    (ok_node
    (ok_leaf (ok_callV (C := RX11) (T := TX11) (N := 31) (Mc := M_X11_leaves) (show decode cX11_drops 14 = .ok (.invokevirtual 144, 3) by decide +kernel) rfl (by decide) (by decide +kernel) rfl rfl wd_623 wd_624 wd_625 wd_558 wd_626 ⟨by decide +kernel, by decide +kernel, by decide +kernel⟩ (by decide)))
    (ok_node
    (ok_leaf (ok_aload_n (show decode cX11_drops 17 = .ok (.aload_n 0, 1) by decide +kernel) rfl))
    (ok_leaf (ok_iload_n (show decode cX11_drops 18 = .ok (.iload_n 1, 1) by decide +kernel) rfl))))))
    (ok_node
    (ok_node
    (ok_node
    (ok_leaf (ok_iconst (show decode cX11_drops 19 = .ok (.iconst 0, 1) by decide +kernel) (by decide +kernel)))
    (ok_leaf (ok_callV (C := RX11) (T := TX11) (N := 31) (Mc := M_X11_beginOf) (show decode cX11_drops 20 = .ok (.invokevirtual 150, 3) by decide +kernel) rfl (by decide) (by decide +kernel) rfl rfl wd_631 wd_632 wd_633 wd_558 wd_634 ⟨by decide +kernel, by decide +kernel, by decide +kernel⟩ (by decide))))
    (ok_node
    (ok_leaf (ok_istore_n (show decode cX11_drops 23 = .ok (.istore_n 2, 1) by decide +kernel) rfl))
    (ok_node
    (ok_leaf (ok_aload_n (show decode cX11_drops 24 = .ok (.aload_n 0, 1) by decide +kernel) rfl))
    (ok_leaf (ok_iload_n (show decode cX11_drops 25 = .ok (.iload_n 1, 1) by decide +kernel) rfl)))))
    (ok_node
    (ok_node
    (ok_leaf (ok_iconst (show decode cX11_drops 26 = .ok (.iconst 0, 1) by decide +kernel) (by decide +kernel)))
    (ok_node
    (ok_leaf (ok_callV (C := RX11) (T := TX11) (N := 31) (Mc := M_X11_nodesOf) (show decode cX11_drops 27 = .ok (.invokevirtual 153, 3) by decide +kernel) rfl (by decide) (by decide +kernel) rfl rfl wd_635 wd_636 wd_637 wd_558 wd_638 ⟨by decide +kernel, by decide +kernel, by decide +kernel⟩ (by decide)))
    (ok_leaf (ok_aload_n (show decode cX11_drops 30 = .ok (.aload_n 0, 1) by decide +kernel) rfl))))
    (ok_node
    (ok_leaf (ok_iload_n (show decode cX11_drops 31 = .ok (.iload_n 1, 1) by decide +kernel) rfl))
    (ok_node
    (ok_leaf (ok_iconst (show decode cX11_drops 32 = .ok (.iconst 1, 1) by decide +kernel) (by decide +kernel)))
    (ok_leaf (ok_callV (C := RX11) (T := TX11) (N := 31) (Mc := M_X11_nodesOf) (show decode cX11_drops 33 = .ok (.invokevirtual 153, 3) by decide +kernel) rfl (by decide) (by decide +kernel) rfl rfl wd_635 wd_636 wd_637 wd_558 wd_638 ⟨by decide +kernel, by decide +kernel, by decide +kernel⟩ (by decide))))))))
    (ok_node
    (ok_node
    (ok_node
    (ok_node
    (ok_leaf (ok_iadd (show decode cX11_drops 36 = .ok (.iadd, 1) by decide +kernel)))
    (ok_leaf (ok_istore_n (show decode cX11_drops 37 = .ok (.istore_n 3, 1) by decide +kernel) rfl)))
    (ok_node
    (ok_leaf (ok_iload_n (show decode cX11_drops 38 = .ok (.iload_n 2, 1) by decide +kernel) rfl))
    (ok_node
    (ok_leaf (ok_istore (show decode cX11_drops 39 = .ok (.istore 4, 2) by decide +kernel)))
    (ok_leaf (ok_iload (show decode cX11_drops 41 = .ok (.iload 4, 2) by decide +kernel))))))
    (ok_node
    (ok_node
    (ok_leaf (ok_bipush (show decode cX11_drops 43 = .ok (.bipush 49, 2) by decide +kernel) (by decide +kernel)))
    (ok_node
    (ok_leaf (ok_icmp_ge (show decode cX11_drops 45 = .ok (.if_icmp .ge 38, 3) by decide +kernel) (by decide +kernel)))
    (ok_leaf (ok_aload_n (show decode cX11_drops 48 = .ok (.aload_n 0, 1) by decide +kernel) rfl))))
    (ok_node
    (ok_leaf (ok_getfield (show decode cX11_drops 49 = .ok (.getfield 7, 3) by decide +kernel) (Or.inr (fdF_X11 (by decide) wd_536 rfl rfl))))
    (ok_node
    (ok_leaf (ok_iload (show decode cX11_drops 52 = .ok (.iload 4, 2) by decide +kernel)))
    (ok_leaf (ok_iload (show decode cX11_drops 54 = .ok (.iload 4, 2) by decide +kernel)))))))
    (ok_node
    (ok_node
    (ok_node
    (ok_leaf (ok_iload_n (show decode cX11_drops 56 = .ok (.iload_n 3, 1) by decide +kernel) rfl))
    (ok_leaf (ok_iadd (show decode cX11_drops 57 = .ok (.iadd, 1) by decide +kernel))))
    (ok_node
    (ok_leaf (ok_bipush (show decode cX11_drops 58 = .ok (.bipush 49, 2) by decide +kernel) (by decide +kernel)))
    (ok_node
    (ok_leaf (ok_icmp_ge (show decode cX11_drops 60 = .ok (.if_icmp .ge 15, 3) by decide +kernel) (by decide +kernel)))
    (ok_leaf (ok_aload_n (show decode cX11_drops 63 = .ok (.aload_n 0, 1) by decide +kernel) rfl)))))
    (ok_node
    (ok_node
    (ok_leaf (ok_getfield (show decode cX11_drops 64 = .ok (.getfield 7, 3) by decide +kernel) (Or.inr (fdF_X11 (by decide) wd_536 rfl rfl))))
    (ok_node
    (ok_leaf (ok_iload (show decode cX11_drops 67 = .ok (.iload 4, 2) by decide +kernel)))
    (ok_leaf (ok_iload_n (show decode cX11_drops 69 = .ok (.iload_n 3, 1) by decide +kernel) rfl))))
    (ok_node
    (ok_leaf (ok_iadd (show decode cX11_drops 70 = .ok (.iadd, 1) by decide +kernel)))
    (ok_node
    (ok_leaf (ok_iaload (show decode cX11_drops 71 = .ok (.iaload, 1) by decide +kernel)))
    (ok_leaf (ok_goto (show decode cX11_drops 72 = .ok (.goto 4, 3) by decide +kernel) (by decide +kernel)))))))))
    (ok_node
    (ok_node
    (ok_node
    (ok_node
    (ok_node
    (ok_leaf (ok_iconst (show decode cX11_drops 75 = .ok (.iconst 0, 1) by decide +kernel) (by decide +kernel)))
    (ok_leaf (ok_iastore (show decode cX11_drops 76 = .ok (.iastore, 1) by decide +kernel))))
    (ok_node
    (ok_leaf (ok_iinc (show decode cX11_drops 77 = .ok (.iinc 4 1, 3) by decide +kernel) (by decide +kernel)))
    (ok_node
    (ok_leaf (ok_goto (show decode cX11_drops 80 = .ok (.goto (-39), 3) by decide +kernel) (by decide +kernel)))
    (ok_leaf (ok_iconst (show decode cX11_drops 83 = .ok (.iconst 2, 1) by decide +kernel) (by decide +kernel))))))
    (ok_node
    (ok_node
    (ok_leaf (ok_iload_n (show decode cX11_drops 84 = .ok (.iload_n 1, 1) by decide +kernel) rfl))
    (ok_node
    (ok_leaf (ok_imul (show decode cX11_drops 85 = .ok (.imul, 1) by decide +kernel)))
    (ok_leaf (ok_istore (show decode cX11_drops 86 = .ok (.istore 4, 2) by decide +kernel)))))
    (ok_node
    (ok_leaf (ok_iload (show decode cX11_drops 88 = .ok (.iload 4, 2) by decide +kernel)))
    (ok_node
    (ok_leaf (ok_bipush (show decode cX11_drops 90 = .ok (.bipush 8, 2) by decide +kernel) (by decide +kernel)))
    (ok_leaf (ok_icmp_ge (show decode cX11_drops 92 = .ok (.if_icmp .ge 40, 3) by decide +kernel) (by decide +kernel)))))))
    (ok_node
    (ok_node
    (ok_node
    (ok_leaf (ok_aload_n (show decode cX11_drops 95 = .ok (.aload_n 0, 1) by decide +kernel) rfl))
    (ok_leaf (ok_getfield (show decode cX11_drops 96 = .ok (.getfield 7, 3) by decide +kernel) (Or.inr (fdF_X11 (by decide) wd_536 rfl rfl)))))
    (ok_node
    (ok_leaf (ok_iconst (show decode cX11_drops 99 = .ok (.iconst 1, 1) by decide +kernel) (by decide +kernel)))
    (ok_node
    (ok_leaf (ok_iload (show decode cX11_drops 100 = .ok (.iload 4, 2) by decide +kernel)))
    (ok_leaf (ok_iadd (show decode cX11_drops 102 = .ok (.iadd, 1) by decide +kernel))))))
    (ok_node
    (ok_node
    (ok_leaf (ok_iload (show decode cX11_drops 103 = .ok (.iload 4, 2) by decide +kernel)))
    (ok_node
    (ok_leaf (ok_bipush (show decode cX11_drops 105 = .ok (.bipush 6, 2) by decide +kernel) (by decide +kernel)))
    (ok_leaf (ok_icmp_ge (show decode cX11_drops 107 = .ok (.if_icmp .ge 17, 3) by decide +kernel) (by decide +kernel)))))
    (ok_node
    (ok_leaf (ok_aload_n (show decode cX11_drops 110 = .ok (.aload_n 0, 1) by decide +kernel) rfl))
    (ok_node
    (ok_leaf (ok_getfield (show decode cX11_drops 111 = .ok (.getfield 7, 3) by decide +kernel) (Or.inr (fdF_X11 (by decide) wd_536 rfl rfl))))
    (ok_leaf (ok_iconst (show decode cX11_drops 114 = .ok (.iconst 1, 1) by decide +kernel) (by decide +kernel))))))))
    (ok_node
    (ok_node
    (ok_node
    (ok_node
    (ok_leaf (ok_iload (show decode cX11_drops 115 = .ok (.iload 4, 2) by decide +kernel)))
    (ok_leaf (ok_iadd (show decode cX11_drops 117 = .ok (.iadd, 1) by decide +kernel))))
    (ok_node
    (ok_leaf (ok_iconst (show decode cX11_drops 118 = .ok (.iconst 2, 1) by decide +kernel) (by decide +kernel)))
    (ok_node
    (ok_leaf (ok_iadd (show decode cX11_drops 119 = .ok (.iadd, 1) by decide +kernel)))
    (ok_leaf (ok_iaload (show decode cX11_drops 120 = .ok (.iaload, 1) by decide +kernel))))))
    (ok_node
    (ok_node
    (ok_leaf (ok_goto (show decode cX11_drops 121 = .ok (.goto 4, 3) by decide +kernel) (by decide +kernel)))
    (ok_node
    (ok_leaf (ok_iconst (show decode cX11_drops 124 = .ok (.iconst 0, 1) by decide +kernel) (by decide +kernel)))
    (ok_leaf (ok_iastore (show decode cX11_drops 125 = .ok (.iastore, 1) by decide +kernel)))))
    (ok_node
    (ok_leaf (ok_iinc (show decode cX11_drops 126 = .ok (.iinc 4 1, 3) by decide +kernel) (by decide +kernel)))
    (ok_node
    (ok_leaf (ok_goto (show decode cX11_drops 129 = .ok (.goto (-41), 3) by decide +kernel) (by decide +kernel)))
    (ok_leaf (ok_aload_n (show decode cX11_drops 132 = .ok (.aload_n 0, 1) by decide +kernel) rfl))))))
    (ok_node
    (ok_node
    (ok_node
    (ok_leaf (ok_getfield (show decode cX11_drops 133 = .ok (.getfield 7, 3) by decide +kernel) (Or.inr (fdF_X11 (by decide) wd_536 rfl rfl))))
    (ok_node
    (ok_leaf (ok_iconst (show decode cX11_drops 136 = .ok (.iconst 0, 1) by decide +kernel) (by decide +kernel)))
    (ok_leaf (ok_dup2 (show decode cX11_drops 137 = .ok (.dup2, 1) by decide +kernel)))))
    (ok_node
    (ok_leaf (ok_iaload (show decode cX11_drops 138 = .ok (.iaload, 1) by decide +kernel)))
    (ok_node
    (ok_leaf (ok_iconst (show decode cX11_drops 139 = .ok (.iconst 1, 1) by decide +kernel) (by decide +kernel)))
    (ok_leaf (ok_isub (show decode cX11_drops 140 = .ok (.isub, 1) by decide +kernel))))))
    (ok_node
    (ok_node
    (ok_leaf (ok_iastore (show decode cX11_drops 141 = .ok (.iastore, 1) by decide +kernel)))
    (ok_node
    (ok_leaf (ok_aload_n (show decode cX11_drops 142 = .ok (.aload_n 0, 1) by decide +kernel) rfl))
    (ok_leaf (ok_getfield (show decode cX11_drops 143 = .ok (.getfield 7, 3) by decide +kernel) (Or.inr (fdF_X11 (by decide) wd_536 rfl rfl))))))
    (ok_node
    (ok_leaf (ok_iconst (show decode cX11_drops 146 = .ok (.iconst 0, 1) by decide +kernel) (by decide +kernel)))
    (ok_node
    (ok_leaf (ok_iaload (show decode cX11_drops 147 = .ok (.iaload, 1) by decide +kernel)))
    (ok_leaf (ok_ireturn (show decode cX11_drops 148 = .ok (.ireturn, 1) by decide +kernel) rfl))))))))
set_option maxRecDepth 20000 in
set_option maxHeartbeats 4000000 in
theorem ok_X11_turns {sc : List Int32} : ∀ pc, pOk mtOf 189 M_X11_turns false sc pc (cd_X11_turns pc) := by
  unfold cd_X11_turns
  exact ok_node
    (ok_node
    (ok_node
    (ok_node
    (ok_node
    (ok_node
    (ok_leaf (ok_aload_n (show decode cX11_turns 0 = .ok (.aload_n 0, 1) by decide +kernel) rfl))
    (ok_node
    (ok_leaf (ok_iload_n (show decode cX11_turns 1 = .ok (.iload_n 1, 1) by decide +kernel) rfl))
    (ok_leaf (ok_callV (C := RX11) (T := TX11) (N := 31) (Mc := M_X11_isEquation) (show decode cX11_turns 2 = .ok (.invokevirtual 147, 3) by decide +kernel) rfl (by decide) (by decide +kernel) rfl rfl wd_627 wd_628 wd_629 wd_558 wd_630 ⟨by decide +kernel, by decide +kernel, by decide +kernel⟩ (by decide)))))
    (ok_node
    (ok_leaf (ok_if_ne (show decode cX11_turns 5 = .ok (.ifCond .ne 8, 3) by decide +kernel) (by decide +kernel)))
    (ok_node
    (ok_leaf (ok_aload_n (show decode cX11_turns 8 = .ok (.aload_n 0, 1) by decide +kernel) rfl))
    (ok_leaf (ok_callV (C := RX11) (T := TX11) (N := 31) (Mc := M_X11_bad) (show decode cX11_turns 9 = .ok (.invokevirtual 101, 3) by decide +kernel) rfl (by decide) (by decide +kernel) rfl rfl wd_580 wd_581 wd_582 wd_558 wd_583 ⟨by decide +kernel, by decide +kernel, by decide +kernel⟩ (by decide))))))
    (ok_node
    (ok_node
    (ok_leaf (ok_ireturn (show decode cX11_turns 12 = .ok (.ireturn, 1) by decide +kernel) rfl))
    (ok_node
    (ok_leaf (ok_aload_n (show decode cX11_turns 13 = .ok (.aload_n 0, 1) by decide +kernel) rfl))
    (ok_leaf (ok_callV (C := RX11) (T := TX11) (N := 31) (Mc := M_X11_leaves) (show decode cX11_turns 14 = .ok (.invokevirtual 144, 3) by decide +kernel) rfl (by decide) (by decide +kernel) rfl rfl wd_623 wd_624 wd_625 wd_558 wd_626 ⟨by decide +kernel, by decide +kernel, by decide +kernel⟩ (by decide)))))
    (ok_node
    (ok_leaf (ok_aload_n (show decode cX11_turns 17 = .ok (.aload_n 0, 1) by decide +kernel) rfl))
    (ok_node
    (ok_leaf (ok_iload_n (show decode cX11_turns 18 = .ok (.iload_n 1, 1) by decide +kernel) rfl))
    (ok_leaf (ok_iconst (show decode cX11_turns 19 = .ok (.iconst 0, 1) by decide +kernel) (by decide +kernel)))))))
    (ok_node
    (ok_node
    (ok_node
    (ok_leaf (ok_callV (C := RX11) (T := TX11) (N := 31) (Mc := M_X11_beginOf) (show decode cX11_turns 20 = .ok (.invokevirtual 150, 3) by decide +kernel) rfl (by decide) (by decide +kernel) rfl rfl wd_631 wd_632 wd_633 wd_558 wd_634 ⟨by decide +kernel, by decide +kernel, by decide +kernel⟩ (by decide)))
    (ok_node
    (ok_leaf (ok_istore_n (show decode cX11_turns 23 = .ok (.istore_n 2, 1) by decide +kernel) rfl))
    (ok_leaf (ok_aload_n (show decode cX11_turns 24 = .ok (.aload_n 0, 1) by decide +kernel) rfl))))
    (ok_node
    (ok_leaf (ok_iload_n (show decode cX11_turns 25 = .ok (.iload_n 1, 1) by decide +kernel) rfl))
    (ok_node
    (ok_leaf (ok_iconst (show decode cX11_turns 26 = .ok (.iconst 0, 1) by decide +kernel) (by decide +kernel)))
    (ok_leaf (ok_callV (C := RX11) (T := TX11) (N := 31) (Mc := M_X11_nodesOf) (show decode cX11_turns 27 = .ok (.invokevirtual 153, 3) by decide +kernel) rfl (by decide) (by decide +kernel) rfl rfl wd_635 wd_636 wd_637 wd_558 wd_638 ⟨by decide +kernel, by decide +kernel, by decide +kernel⟩ (by decide))))))
    (ok_node
    (ok_node
    (ok_leaf (ok_istore_n (show decode cX11_turns 30 = .ok (.istore_n 3, 1) by decide +kernel) rfl))
    (ok_node
    (ok_leaf (ok_aload_n (show decode cX11_turns 31 = .ok (.aload_n 0, 1) by decide +kernel) rfl))
    (ok_leaf (ok_iload_n (show decode cX11_turns 32 = .ok (.iload_n 1, 1) by decide +kernel) rfl))))
    (ok_node
    (ok_leaf (ok_iconst (show decode cX11_turns 33 = .ok (.iconst 1, 1) by decide +kernel) (by decide +kernel)))
    (ok_node
    (ok_leaf (ok_callV (C := RX11) (T := TX11) (N := 31) (Mc := M_X11_nodesOf) (show decode cX11_turns 34 = .ok (.invokevirtual 153, 3) by decide +kernel) rfl (by decide) (by decide +kernel) rfl rfl wd_635 wd_636 wd_637 wd_558 wd_638 ⟨by decide +kernel, by decide +kernel, by decide +kernel⟩ (by decide)))
    (ok_leaf (ok_istore (show decode cX11_turns 37 = .ok (.istore 4, 2) by decide +kernel))))))))
    (ok_node
    (ok_node
    (ok_node
    (ok_node
    (ok_leaf (ok_iconst (show decode cX11_turns 39 = .ok (.iconst 0, 1) by decide +kernel) (by decide +kernel)))
    (ok_node
    (ok_leaf (ok_istore (show decode cX11_turns 40 = .ok (.istore 5, 2) by decide +kernel)))
    (ok_leaf (ok_iload (show decode cX11_turns 42 = .ok (.iload 5, 2) by decide +kernel)))))
    (ok_node
    (ok_leaf (ok_iload_n (show decode cX11_turns 44 = .ok (.iload_n 3, 1) by decide +kernel) rfl))
    (ok_node
    (ok_leaf (ok_iload (show decode cX11_turns 45 = .ok (.iload 4, 2) by decide +kernel)))
    (ok_leaf (ok_iadd (show decode cX11_turns 47 = .ok (.iadd, 1) by decide +kernel))))))
    (ok_node
    (ok_node
    (ok_leaf (ok_icmp_ge (show decode cX11_turns 48 = .ok (.if_icmp .ge 25, 3) by decide +kernel) (by decide +kernel)))
    (ok_node
    (ok_leaf (ok_aload_n (show decode cX11_turns 51 = .ok (.aload_n 0, 1) by decide +kernel) rfl))
    (ok_leaf (ok_getfield (show decode cX11_turns 52 = .ok (.getfield 13, 3) by decide +kernel) (Or.inr (fdF_X11 (by decide) wd_537 rfl rfl))))))
    (ok_node
    (ok_leaf (ok_iload (show decode cX11_turns 55 = .ok (.iload 5, 2) by decide +kernel)))
    (ok_node
    (ok_leaf (ok_aload_n (show decode cX11_turns 57 = .ok (.aload_n 0, 1) by decide +kernel) rfl))
    (ok_leaf (ok_getfield (show decode cX11_turns 58 = .ok (.getfield 7, 3) by decide +kernel) (Or.inr (fdF_X11 (by decide) wd_536 rfl rfl))))))))
    (ok_node
    (ok_node
    (ok_node
    (ok_leaf (ok_iload_n (show decode cX11_turns 61 = .ok (.iload_n 2, 1) by decide +kernel) rfl))
    (ok_node
    (ok_leaf (ok_iload (show decode cX11_turns 62 = .ok (.iload 5, 2) by decide +kernel)))
    (ok_leaf (ok_iadd (show decode cX11_turns 64 = .ok (.iadd, 1) by decide +kernel)))))
    (ok_node
    (ok_leaf (ok_iaload (show decode cX11_turns 65 = .ok (.iaload, 1) by decide +kernel)))
    (ok_node
    (ok_leaf (ok_iastore (show decode cX11_turns 66 = .ok (.iastore, 1) by decide +kernel)))
    (ok_leaf (ok_iinc (show decode cX11_turns 67 = .ok (.iinc 5 1, 3) by decide +kernel) (by decide +kernel))))))
    (ok_node
    (ok_node
    (ok_leaf (ok_goto (show decode cX11_turns 70 = .ok (.goto (-28), 3) by decide +kernel) (by decide +kernel)))
    (ok_node
    (ok_leaf (ok_iconst (show decode cX11_turns 73 = .ok (.iconst 0, 1) by decide +kernel) (by decide +kernel)))
    (ok_leaf (ok_istore (show decode cX11_turns 74 = .ok (.istore 5, 2) by decide +kernel)))))
    (ok_node
    (ok_leaf (ok_iload (show decode cX11_turns 76 = .ok (.iload 5, 2) by decide +kernel)))
    (ok_node
    (ok_leaf (ok_iload_n (show decode cX11_turns 78 = .ok (.iload_n 3, 1) by decide +kernel) rfl))
    (ok_leaf (ok_iload (show decode cX11_turns 79 = .ok (.iload 4, 2) by decide +kernel)))))))))
    (ok_node
    (ok_node
    (ok_node
    (ok_node
    (ok_node
    (ok_leaf (ok_iadd (show decode cX11_turns 81 = .ok (.iadd, 1) by decide +kernel)))
    (ok_node
    (ok_leaf (ok_icmp_ge (show decode cX11_turns 82 = .ok (.if_icmp .ge 47, 3) by decide +kernel) (by decide +kernel)))
    (ok_leaf (ok_aload_n (show decode cX11_turns 85 = .ok (.aload_n 0, 1) by decide +kernel) rfl))))
    (ok_node
    (ok_leaf (ok_getfield (show decode cX11_turns 86 = .ok (.getfield 7, 3) by decide +kernel) (Or.inr (fdF_X11 (by decide) wd_536 rfl rfl))))
    (ok_node
    (ok_leaf (ok_iload_n (show decode cX11_turns 89 = .ok (.iload_n 2, 1) by decide +kernel) rfl))
    (ok_leaf (ok_iload (show decode cX11_turns 90 = .ok (.iload 5, 2) by decide +kernel))))))
    (ok_node
    (ok_node
    (ok_leaf (ok_iadd (show decode cX11_turns 92 = .ok (.iadd, 1) by decide +kernel)))
    (ok_node
    (ok_leaf (ok_iload (show decode cX11_turns 93 = .ok (.iload 5, 2) by decide +kernel)))
    (ok_leaf (ok_iload (show decode cX11_turns 95 = .ok (.iload 4, 2) by decide +kernel)))))
    (ok_node
    (ok_leaf (ok_icmp_ge (show decode cX11_turns 97 = .ok (.if_icmp .ge 15, 3) by decide +kernel) (by decide +kernel)))
    (ok_node
    (ok_leaf (ok_aload_n (show decode cX11_turns 100 = .ok (.aload_n 0, 1) by decide +kernel) rfl))
    (ok_leaf (ok_getfield (show decode cX11_turns 101 = .ok (.getfield 13, 3) by decide +kernel) (Or.inr (fdF_X11 (by decide) wd_537 rfl rfl))))))))
    (ok_node
    (ok_node
    (ok_node
    (ok_leaf (ok_iload_n (show decode cX11_turns 104 = .ok (.iload_n 3, 1) by decide +kernel) rfl))
    (ok_node
    (ok_leaf (ok_iload (show decode cX11_turns 105 = .ok (.iload 5, 2) by decide +kernel)))
    (ok_leaf (ok_iadd (show decode cX11_turns 107 = .ok (.iadd, 1) by decide +kernel)))))
    (ok_node
    (ok_leaf (ok_iaload (show decode cX11_turns 108 = .ok (.iaload, 1) by decide +kernel)))
    (ok_node
    (ok_leaf (ok_goto (show decode cX11_turns 109 = .ok (.goto 13, 3) by decide +kernel) (by decide +kernel)))
    (ok_leaf (ok_aload_n (show decode cX11_turns 112 = .ok (.aload_n 0, 1) by decide +kernel) rfl)))))
    (ok_node
    (ok_node
    (ok_leaf (ok_getfield (show decode cX11_turns 113 = .ok (.getfield 13, 3) by decide +kernel) (Or.inr (fdF_X11 (by decide) wd_537 rfl rfl))))
    (ok_node
    (ok_leaf (ok_iload (show decode cX11_turns 116 = .ok (.iload 5, 2) by decide +kernel)))
    (ok_leaf (ok_iload (show decode cX11_turns 118 = .ok (.iload 4, 2) by decide +kernel)))))
    (ok_node
    (ok_leaf (ok_isub (show decode cX11_turns 120 = .ok (.isub, 1) by decide +kernel)))
    (ok_node
    (ok_leaf (ok_iaload (show decode cX11_turns 121 = .ok (.iaload, 1) by decide +kernel)))
    (ok_leaf (ok_iastore (show decode cX11_turns 122 = .ok (.iastore, 1) by decide +kernel))))))))
    (ok_node
    (ok_node
    (ok_node
    (ok_node
    (ok_leaf (ok_iinc (show decode cX11_turns 123 = .ok (.iinc 5 1, 3) by decide +kernel) (by decide +kernel)))
    (ok_node
    (ok_leaf (ok_goto (show decode cX11_turns 126 = .ok (.goto (-50), 3) by decide +kernel) (by decide +kernel)))
    (ok_leaf (ok_aload_n (show decode cX11_turns 129 = .ok (.aload_n 0, 1) by decide +kernel) rfl))))
    (ok_node
    (ok_leaf (ok_getfield (show decode cX11_turns 130 = .ok (.getfield 7, 3) by decide +kernel) (Or.inr (fdF_X11 (by decide) wd_536 rfl rfl))))
    (ok_node
    (ok_leaf (ok_iconst (show decode cX11_turns 133 = .ok (.iconst 1, 1) by decide +kernel) (by decide +kernel)))
    (ok_leaf (ok_iconst (show decode cX11_turns 134 = .ok (.iconst 2, 1) by decide +kernel) (by decide +kernel))))))
    (ok_node
    (ok_node
    (ok_leaf (ok_iload_n (show decode cX11_turns 135 = .ok (.iload_n 1, 1) by decide +kernel) rfl))
    (ok_node
    (ok_leaf (ok_imul (show decode cX11_turns 136 = .ok (.imul, 1) by decide +kernel)))
    (ok_leaf (ok_iadd (show decode cX11_turns 137 = .ok (.iadd, 1) by decide +kernel)))))
    (ok_node
    (ok_leaf (ok_iload (show decode cX11_turns 138 = .ok (.iload 4, 2) by decide +kernel)))
    (ok_node
    (ok_leaf (ok_iastore (show decode cX11_turns 140 = .ok (.iastore, 1) by decide +kernel)))
    (ok_leaf (ok_aload_n (show decode cX11_turns 141 = .ok (.aload_n 0, 1) by decide +kernel) rfl))))))
    (ok_node
    (ok_node
    (ok_node
    (ok_leaf (ok_getfield (show decode cX11_turns 142 = .ok (.getfield 7, 3) by decide +kernel) (Or.inr (fdF_X11 (by decide) wd_536 rfl rfl))))
    (ok_node
    (ok_leaf (ok_iconst (show decode cX11_turns 145 = .ok (.iconst 1, 1) by decide +kernel) (by decide +kernel)))
    (ok_leaf (ok_iconst (show decode cX11_turns 146 = .ok (.iconst 2, 1) by decide +kernel) (by decide +kernel)))))
    (ok_node
    (ok_leaf (ok_iload_n (show decode cX11_turns 147 = .ok (.iload_n 1, 1) by decide +kernel) rfl))
    (ok_node
    (ok_leaf (ok_imul (show decode cX11_turns 148 = .ok (.imul, 1) by decide +kernel)))
    (ok_leaf (ok_iadd (show decode cX11_turns 149 = .ok (.iadd, 1) by decide +kernel))))))
    (ok_node
    (ok_node
    (ok_leaf (ok_iconst (show decode cX11_turns 150 = .ok (.iconst 1, 1) by decide +kernel) (by decide +kernel)))
    (ok_node
    (ok_leaf (ok_iadd (show decode cX11_turns 151 = .ok (.iadd, 1) by decide +kernel)))
    (ok_leaf (ok_iload_n (show decode cX11_turns 152 = .ok (.iload_n 3, 1) by decide +kernel) rfl))))
    (ok_node
    (ok_leaf (ok_iastore (show decode cX11_turns 153 = .ok (.iastore, 1) by decide +kernel)))
    (ok_node
    (ok_leaf (ok_iload (show decode cX11_turns 154 = .ok (.iload 4, 2) by decide +kernel)))
    (ok_leaf (ok_ireturn (show decode cX11_turns 156 = .ok (.ireturn, 1) by decide +kernel) rfl))))))))
set_option maxRecDepth 20000 in
set_option maxHeartbeats 4000000 in
theorem ok_X11_flexIn {sc : List Int32} : ∀ pc, pOk mtOf 189 M_X11_flexIn false sc pc (cd_X11_flexIn pc) := by
  unfold cd_X11_flexIn
  exact ok_node
    (ok_node
    (ok_node
    (ok_node
    (ok_node
    (ok_leaf (ok_iconst (show decode cX11_flexIn 0 = .ok (.iconst 0, 1) by decide +kernel) (by decide +kernel)))
    (ok_leaf (ok_istore_n (show decode cX11_flexIn 1 = .ok (.istore_n 3, 1) by decide +kernel) rfl)))
    (ok_node
    (ok_leaf (ok_iload_n (show decode cX11_flexIn 2 = .ok (.iload_n 1, 1) by decide +kernel) rfl))
    (ok_leaf (ok_istore (show decode cX11_flexIn 3 = .ok (.istore 4, 2) by decide +kernel)))))
    (ok_node
    (ok_node
    (ok_leaf (ok_iload (show decode cX11_flexIn 5 = .ok (.iload 4, 2) by decide +kernel)))
    (ok_leaf (ok_iload_n (show decode cX11_flexIn 7 = .ok (.iload_n 1, 1) by decide +kernel) rfl)))
    (ok_node
    (ok_leaf (ok_iload_n (show decode cX11_flexIn 8 = .ok (.iload_n 2, 1) by decide +kernel) rfl))
    (ok_leaf (ok_iadd (show decode cX11_flexIn 9 = .ok (.iadd, 1) by decide +kernel))))))
    (ok_node
    (ok_node
    (ok_node
    (ok_leaf (ok_icmp_ge (show decode cX11_flexIn 10 = .ok (.if_icmp .ge 41, 3) by decide +kernel) (by decide +kernel)))
    (ok_leaf (ok_iload_n (show decode cX11_flexIn 13 = .ok (.iload_n 3, 1) by decide +kernel) rfl)))
    (ok_node
    (ok_leaf (ok_aload_n (show decode cX11_flexIn 14 = .ok (.aload_n 0, 1) by decide +kernel) rfl))
    (ok_leaf (ok_getfield (show decode cX11_flexIn 15 = .ok (.getfield 7, 3) by decide +kernel) (Or.inr (fdF_X11 (by decide) wd_536 rfl rfl))))))
    (ok_node
    (ok_node
    (ok_leaf (ok_iload (show decode cX11_flexIn 18 = .ok (.iload 4, 2) by decide +kernel)))
    (ok_leaf (ok_iaload (show decode cX11_flexIn 20 = .ok (.iaload, 1) by decide +kernel))))
    (ok_node
    (ok_leaf (ok_callS (Mc := M_X11_isFlex) (show decode cX11_flexIn 21 = .ok (.invokestatic 85, 3) by decide +kernel) rfl (by decide) (by decide +kernel) wd_569 wd_570 wd_558 wd_571 ⟨by decide +kernel, by decide +kernel, by decide +kernel⟩ (by decide)))
    (ok_leaf (ok_if_eq (show decode cX11_flexIn 24 = .ok (.ifCond .eq 18, 3) by decide +kernel) (by decide +kernel)))))))
    (ok_node
    (ok_node
    (ok_node
    (ok_node
    (ok_leaf (ok_iconst (show decode cX11_flexIn 27 = .ok (.iconst 1, 1) by decide +kernel) (by decide +kernel)))
    (ok_leaf (ok_aload_n (show decode cX11_flexIn 28 = .ok (.aload_n 0, 1) by decide +kernel) rfl)))
    (ok_node
    (ok_leaf (ok_getfield (show decode cX11_flexIn 29 = .ok (.getfield 7, 3) by decide +kernel) (Or.inr (fdF_X11 (by decide) wd_536 rfl rfl))))
    (ok_leaf (ok_iload (show decode cX11_flexIn 32 = .ok (.iload 4, 2) by decide +kernel)))))
    (ok_node
    (ok_node
    (ok_leaf (ok_iaload (show decode cX11_flexIn 34 = .ok (.iaload, 1) by decide +kernel)))
    (ok_leaf (ok_bipush (show decode cX11_flexIn 35 = .ok (.bipush 85, 2) by decide +kernel) (by decide +kernel))))
    (ok_node
    (ok_leaf (ok_isub (show decode cX11_flexIn 37 = .ok (.isub, 1) by decide +kernel)))
    (ok_leaf (ok_ishl (show decode cX11_flexIn 38 = .ok (.ishl, 1) by decide +kernel))))))
    (ok_node
    (ok_node
    (ok_node
    (ok_leaf (ok_goto (show decode cX11_flexIn 39 = .ok (.goto 4, 3) by decide +kernel) (by decide +kernel)))
    (ok_leaf (ok_iconst (show decode cX11_flexIn 42 = .ok (.iconst 0, 1) by decide +kernel) (by decide +kernel))))
    (ok_node
    (ok_leaf (ok_ior (show decode cX11_flexIn 43 = .ok (.ior, 1) by decide +kernel)))
    (ok_leaf (ok_istore_n (show decode cX11_flexIn 44 = .ok (.istore_n 3, 1) by decide +kernel) rfl))))
    (ok_node
    (ok_node
    (ok_leaf (ok_iinc (show decode cX11_flexIn 45 = .ok (.iinc 4 1, 3) by decide +kernel) (by decide +kernel)))
    (ok_leaf (ok_goto (show decode cX11_flexIn 48 = .ok (.goto (-43), 3) by decide +kernel) (by decide +kernel))))
    (ok_node
    (ok_leaf (ok_iload_n (show decode cX11_flexIn 51 = .ok (.iload_n 3, 1) by decide +kernel) rfl))
    (ok_leaf (ok_ireturn (show decode cX11_flexIn 52 = .ok (.ireturn, 1) by decide +kernel) rfl))))))
set_option maxRecDepth 20000 in
set_option maxHeartbeats 4000000 in
theorem ok_X11_deepOf {sc : List Int32} : ∀ pc, pOk mtOf 189 M_X11_deepOf false sc pc (cd_X11_deepOf pc) := by
  unfold cd_X11_deepOf
  exact ok_node
    (ok_node
    (ok_node
    (ok_node
    (ok_node
    (ok_leaf (ok_iconst (show decode cX11_deepOf 0 = .ok (.iconst 0, 1) by decide +kernel) (by decide +kernel)))
    (ok_node
    (ok_leaf (ok_istore_n (show decode cX11_deepOf 1 = .ok (.istore_n 3, 1) by decide +kernel) rfl))
    (ok_leaf (ok_aload_n (show decode cX11_deepOf 2 = .ok (.aload_n 0, 1) by decide +kernel) rfl))))
    (ok_node
    (ok_leaf (ok_iconst (show decode cX11_deepOf 3 = .ok (.iconst 0, 1) by decide +kernel) (by decide +kernel)))
    (ok_node
    (ok_leaf (ok_putI (show decode cX11_deepOf 4 = .ok (.putfield 122, 3) by decide +kernel) (Or.inl (fd_X11 (by decide) wd_598 rfl rfl)) rfl))
    (ok_leaf (ok_iload_n (show decode cX11_deepOf 7 = .ok (.iload_n 1, 1) by decide +kernel) rfl)))))
    (ok_node
    (ok_node
    (ok_leaf (ok_istore (show decode cX11_deepOf 8 = .ok (.istore 4, 2) by decide +kernel)))
    (ok_node
    (ok_leaf (ok_iload (show decode cX11_deepOf 10 = .ok (.iload 4, 2) by decide +kernel)))
    (ok_leaf (ok_iload_n (show decode cX11_deepOf 12 = .ok (.iload_n 1, 1) by decide +kernel) rfl))))
    (ok_node
    (ok_node
    (ok_leaf (ok_iload_n (show decode cX11_deepOf 13 = .ok (.iload_n 2, 1) by decide +kernel) rfl))
    (ok_leaf (ok_iadd (show decode cX11_deepOf 14 = .ok (.iadd, 1) by decide +kernel))))
    (ok_node
    (ok_leaf (ok_icmp_ge (show decode cX11_deepOf 15 = .ok (.if_icmp .ge 75, 3) by decide +kernel) (by decide +kernel)))
    (ok_leaf (ok_aload_n (show decode cX11_deepOf 18 = .ok (.aload_n 0, 1) by decide +kernel) rfl))))))
    (ok_node
    (ok_node
    (ok_node
    (ok_leaf (ok_getfield (show decode cX11_deepOf 19 = .ok (.getfield 122, 3) by decide +kernel) (Or.inl (fd_X11 (by decide) wd_598 rfl rfl))))
    (ok_node
    (ok_leaf (ok_iconst (show decode cX11_deepOf 22 = .ok (.iconst 1, 1) by decide +kernel) (by decide +kernel)))
    (ok_leaf (ok_iadd (show decode cX11_deepOf 23 = .ok (.iadd, 1) by decide +kernel)))))
    (ok_node
    (ok_leaf (ok_iload_n (show decode cX11_deepOf 24 = .ok (.iload_n 3, 1) by decide +kernel) rfl))
    (ok_node
    (ok_leaf (ok_icmp_le (show decode cX11_deepOf 25 = .ok (.if_icmp .le 12, 3) by decide +kernel) (by decide +kernel)))
    (ok_leaf (ok_aload_n (show decode cX11_deepOf 28 = .ok (.aload_n 0, 1) by decide +kernel) rfl)))))
    (ok_node
    (ok_node
    (ok_leaf (ok_getfield (show decode cX11_deepOf 29 = .ok (.getfield 122, 3) by decide +kernel) (Or.inl (fd_X11 (by decide) wd_598 rfl rfl))))
    (ok_node
    (ok_leaf (ok_iconst (show decode cX11_deepOf 32 = .ok (.iconst 1, 1) by decide +kernel) (by decide +kernel)))
    (ok_leaf (ok_iadd (show decode cX11_deepOf 33 = .ok (.iadd, 1) by decide +kernel)))))
    (ok_node
    (ok_node
    (ok_leaf (ok_goto (show decode cX11_deepOf 34 = .ok (.goto 4, 3) by decide +kernel) (by decide +kernel)))
    (ok_leaf (ok_iload_n (show decode cX11_deepOf 37 = .ok (.iload_n 3, 1) by decide +kernel) rfl)))
    (ok_node
    (ok_leaf (ok_istore_n (show decode cX11_deepOf 38 = .ok (.istore_n 3, 1) by decide +kernel) rfl))
    (ok_leaf (ok_aload_n (show decode cX11_deepOf 39 = .ok (.aload_n 0, 1) by decide +kernel) rfl)))))))
    (ok_node
    (ok_node
    (ok_node
    (ok_node
    (ok_leaf (ok_getfield (show decode cX11_deepOf 40 = .ok (.getfield 7, 3) by decide +kernel) (Or.inr (fdF_X11 (by decide) wd_536 rfl rfl))))
    (ok_node
    (ok_leaf (ok_iload (show decode cX11_deepOf 43 = .ok (.iload 4, 2) by decide +kernel)))
    (ok_leaf (ok_iaload (show decode cX11_deepOf 45 = .ok (.iaload, 1) by decide +kernel)))))
    (ok_node
    (ok_leaf (ok_callS (Mc := M_X11_partsOf) (show decode cX11_deepOf 46 = .ok (.invokestatic 89, 3) by decide +kernel) rfl (by decide) (by decide +kernel) wd_572 wd_573 wd_558 wd_574 ⟨by decide +kernel, by decide +kernel, by decide +kernel⟩ (by decide)))
    (ok_node
    (ok_leaf (ok_istore (show decode cX11_deepOf 49 = .ok (.istore 5, 2) by decide +kernel)))
    (ok_leaf (ok_iload (show decode cX11_deepOf 51 = .ok (.iload 5, 2) by decide +kernel))))))
    (ok_node
    (ok_node
    (ok_leaf (ok_if_le (show decode cX11_deepOf 53 = .ok (.ifCond .le 27, 3) by decide +kernel) (by decide +kernel)))
    (ok_node
    (ok_leaf (ok_aload_n (show decode cX11_deepOf 56 = .ok (.aload_n 0, 1) by decide +kernel) rfl))
    (ok_leaf (ok_getfield (show decode cX11_deepOf 57 = .ok (.getfield 31, 3) by decide +kernel) (Or.inr (fdF_X11 (by decide) wd_543 rfl rfl))))))
    (ok_node
    (ok_node
    (ok_leaf (ok_aload_n (show decode cX11_deepOf 60 = .ok (.aload_n 0, 1) by decide +kernel) rfl))
    (ok_leaf (ok_getfield (show decode cX11_deepOf 61 = .ok (.getfield 122, 3) by decide +kernel) (Or.inl (fd_X11 (by decide) wd_598 rfl rfl)))))
    (ok_node
    (ok_leaf (ok_iload (show decode cX11_deepOf 64 = .ok (.iload 5, 2) by decide +kernel)))
    (ok_leaf (ok_iastore (show decode cX11_deepOf 66 = .ok (.iastore, 1) by decide +kernel)))))))
    (ok_node
    (ok_node
    (ok_node
    (ok_leaf (ok_aload_n (show decode cX11_deepOf 67 = .ok (.aload_n 0, 1) by decide +kernel) rfl))
    (ok_node
    (ok_leaf (ok_dup (show decode cX11_deepOf 68 = .ok (.dup, 1) by decide +kernel)))
    (ok_leaf (ok_getfield (show decode cX11_deepOf 69 = .ok (.getfield 122, 3) by decide +kernel) (Or.inl (fd_X11 (by decide) wd_598 rfl rfl))))))
    (ok_node
    (ok_leaf (ok_iconst (show decode cX11_deepOf 72 = .ok (.iconst 1, 1) by decide +kernel) (by decide +kernel)))
    (ok_node
    (ok_leaf (ok_iadd (show decode cX11_deepOf 73 = .ok (.iadd, 1) by decide +kernel)))
    (ok_leaf (ok_putI (show decode cX11_deepOf 74 = .ok (.putfield 122, 3) by decide +kernel) (Or.inl (fd_X11 (by decide) wd_598 rfl rfl)) rfl)))))
    (ok_node
    (ok_node
    (ok_leaf (ok_goto (show decode cX11_deepOf 77 = .ok (.goto 7, 3) by decide +kernel) (by decide +kernel)))
    (ok_node
    (ok_leaf (ok_aload_n (show decode cX11_deepOf 80 = .ok (.aload_n 0, 1) by decide +kernel) rfl))
    (ok_leaf (ok_callV (C := RX11) (T := TX11) (N := 31) (Mc := M_X11_ends) (show decode cX11_deepOf 81 = .ok (.invokevirtual 156, 3) by decide +kernel) rfl (by decide) (by decide +kernel) rfl rfl wd_639 wd_640 wd_641 wd_558 wd_642 ⟨by decide +kernel, by decide +kernel, by decide +kernel⟩ (by decide)))))
    (ok_node
    (ok_node
    (ok_leaf (ok_iinc (show decode cX11_deepOf 84 = .ok (.iinc 4 1, 3) by decide +kernel) (by decide +kernel)))
    (ok_leaf (ok_goto (show decode cX11_deepOf 87 = .ok (.goto (-77), 3) by decide +kernel) (by decide +kernel))))
    (ok_node
    (ok_leaf (ok_iload_n (show decode cX11_deepOf 90 = .ok (.iload_n 3, 1) by decide +kernel) rfl))
    (ok_leaf (ok_ireturn (show decode cX11_deepOf 91 = .ok (.ireturn, 1) by decide +kernel) rfl)))))))
set_option maxRecDepth 20000 in
set_option maxHeartbeats 4000000 in
theorem ok_X11_ends {sc : List Int32} : ∀ pc, pOk mtOf 189 M_X11_ends false sc pc (cd_X11_ends pc) := by
  unfold cd_X11_ends
  exact ok_node
    (ok_node
    (ok_node
    (ok_node
    (ok_node
    (ok_leaf (ok_aload_n (show decode cX11_ends 0 = .ok (.aload_n 0, 1) by decide +kernel) rfl))
    (ok_node
    (ok_leaf (ok_getfield (show decode cX11_ends 1 = .ok (.getfield 122, 3) by decide +kernel) (Or.inl (fd_X11 (by decide) wd_598 rfl rfl))))
    (ok_leaf (ok_if_le (show decode cX11_ends 4 = .ok (.ifCond .le 7, 3) by decide +kernel) (by decide +kernel)))))
    (ok_node
    (ok_leaf (ok_iconst (show decode cX11_ends 7 = .ok (.iconst 1, 1) by decide +kernel) (by decide +kernel)))
    (ok_node
    (ok_leaf (ok_goto (show decode cX11_ends 8 = .ok (.goto 4, 3) by decide +kernel) (by decide +kernel)))
    (ok_leaf (ok_iconst (show decode cX11_ends 11 = .ok (.iconst 0, 1) by decide +kernel) (by decide +kernel))))))
    (ok_node
    (ok_node
    (ok_leaf (ok_istore_n (show decode cX11_ends 12 = .ok (.istore_n 1, 1) by decide +kernel) rfl))
    (ok_node
    (ok_leaf (ok_iload_n (show decode cX11_ends 13 = .ok (.iload_n 1, 1) by decide +kernel) rfl))
    (ok_leaf (ok_if_eq (show decode cX11_ends 14 = .ok (.ifCond .eq 76, 3) by decide +kernel) (by decide +kernel)))))
    (ok_node
    (ok_node
    (ok_leaf (ok_aload_n (show decode cX11_ends 17 = .ok (.aload_n 0, 1) by decide +kernel) rfl))
    (ok_leaf (ok_getfield (show decode cX11_ends 18 = .ok (.getfield 31, 3) by decide +kernel) (Or.inr (fdF_X11 (by decide) wd_543 rfl rfl)))))
    (ok_node
    (ok_leaf (ok_aload_n (show decode cX11_ends 21 = .ok (.aload_n 0, 1) by decide +kernel) rfl))
    (ok_leaf (ok_getfield (show decode cX11_ends 22 = .ok (.getfield 122, 3) by decide +kernel) (Or.inl (fd_X11 (by decide) wd_598 rfl rfl))))))))
    (ok_node
    (ok_node
    (ok_node
    (ok_leaf (ok_iconst (show decode cX11_ends 25 = .ok (.iconst 1, 1) by decide +kernel) (by decide +kernel)))
    (ok_node
    (ok_leaf (ok_isub (show decode cX11_ends 26 = .ok (.isub, 1) by decide +kernel)))
    (ok_leaf (ok_dup2 (show decode cX11_ends 27 = .ok (.dup2, 1) by decide +kernel)))))
    (ok_node
    (ok_leaf (ok_iaload (show decode cX11_ends 28 = .ok (.iaload, 1) by decide +kernel)))
    (ok_node
    (ok_leaf (ok_iconst (show decode cX11_ends 29 = .ok (.iconst 1, 1) by decide +kernel) (by decide +kernel)))
    (ok_leaf (ok_isub (show decode cX11_ends 30 = .ok (.isub, 1) by decide +kernel))))))
    (ok_node
    (ok_node
    (ok_leaf (ok_iastore (show decode cX11_ends 31 = .ok (.iastore, 1) by decide +kernel)))
    (ok_node
    (ok_leaf (ok_aload_n (show decode cX11_ends 32 = .ok (.aload_n 0, 1) by decide +kernel) rfl))
    (ok_leaf (ok_getfield (show decode cX11_ends 33 = .ok (.getfield 31, 3) by decide +kernel) (Or.inr (fdF_X11 (by decide) wd_543 rfl rfl))))))
    (ok_node
    (ok_node
    (ok_leaf (ok_aload_n (show decode cX11_ends 36 = .ok (.aload_n 0, 1) by decide +kernel) rfl))
    (ok_leaf (ok_getfield (show decode cX11_ends 37 = .ok (.getfield 122, 3) by decide +kernel) (Or.inl (fd_X11 (by decide) wd_598 rfl rfl)))))
    (ok_node
    (ok_leaf (ok_iconst (show decode cX11_ends 40 = .ok (.iconst 1, 1) by decide +kernel) (by decide +kernel)))
    (ok_leaf (ok_isub (show decode cX11_ends 41 = .ok (.isub, 1) by decide +kernel))))))))
    (ok_node
    (ok_node
    (ok_node
    (ok_node
    (ok_leaf (ok_iaload (show decode cX11_ends 42 = .ok (.iaload, 1) by decide +kernel)))
    (ok_node
    (ok_leaf (ok_if_ne (show decode cX11_ends 43 = .ok (.ifCond .ne 7, 3) by decide +kernel) (by decide +kernel)))
    (ok_leaf (ok_iconst (show decode cX11_ends 46 = .ok (.iconst 1, 1) by decide +kernel) (by decide +kernel)))))
    (ok_node
    (ok_leaf (ok_goto (show decode cX11_ends 47 = .ok (.goto 4, 3) by decide +kernel) (by decide +kernel)))
    (ok_node
    (ok_leaf (ok_iconst (show decode cX11_ends 50 = .ok (.iconst 0, 1) by decide +kernel) (by decide +kernel)))
    (ok_leaf (ok_istore_n (show decode cX11_ends 51 = .ok (.istore_n 2, 1) by decide +kernel) rfl)))))
    (ok_node
    (ok_node
    (ok_leaf (ok_aload_n (show decode cX11_ends 52 = .ok (.aload_n 0, 1) by decide +kernel) rfl))
    (ok_node
    (ok_leaf (ok_dup (show decode cX11_ends 53 = .ok (.dup, 1) by decide +kernel)))
    (ok_leaf (ok_getfield (show decode cX11_ends 54 = .ok (.getfield 122, 3) by decide +kernel) (Or.inl (fd_X11 (by decide) wd_598 rfl rfl))))))
    (ok_node
    (ok_node
    (ok_leaf (ok_iload_n (show decode cX11_ends 57 = .ok (.iload_n 2, 1) by decide +kernel) rfl))
    (ok_leaf (ok_if_eq (show decode cX11_ends 58 = .ok (.ifCond .eq 7, 3) by decide +kernel) (by decide +kernel))))
    (ok_node
    (ok_leaf (ok_iconst (show decode cX11_ends 61 = .ok (.iconst 1, 1) by decide +kernel) (by decide +kernel)))
    (ok_leaf (ok_goto (show decode cX11_ends 62 = .ok (.goto 4, 3) by decide +kernel) (by decide +kernel)))))))
    (ok_node
    (ok_node
    (ok_node
    (ok_leaf (ok_iconst (show decode cX11_ends 65 = .ok (.iconst 0, 1) by decide +kernel) (by decide +kernel)))
    (ok_node
    (ok_leaf (ok_isub (show decode cX11_ends 66 = .ok (.isub, 1) by decide +kernel)))
    (ok_leaf (ok_putI (show decode cX11_ends 67 = .ok (.putfield 122, 3) by decide +kernel) (Or.inl (fd_X11 (by decide) wd_598 rfl rfl)) rfl))))
    (ok_node
    (ok_node
    (ok_leaf (ok_iload_n (show decode cX11_ends 70 = .ok (.iload_n 2, 1) by decide +kernel) rfl))
    (ok_leaf (ok_if_eq (show decode cX11_ends 71 = .ok (.ifCond .eq 14, 3) by decide +kernel) (by decide +kernel))))
    (ok_node
    (ok_leaf (ok_aload_n (show decode cX11_ends 74 = .ok (.aload_n 0, 1) by decide +kernel) rfl))
    (ok_leaf (ok_getfield (show decode cX11_ends 75 = .ok (.getfield 122, 3) by decide +kernel) (Or.inl (fd_X11 (by decide) wd_598 rfl rfl)))))))
    (ok_node
    (ok_node
    (ok_leaf (ok_if_le (show decode cX11_ends 78 = .ok (.ifCond .le 7, 3) by decide +kernel) (by decide +kernel)))
    (ok_node
    (ok_leaf (ok_iconst (show decode cX11_ends 81 = .ok (.iconst 1, 1) by decide +kernel) (by decide +kernel)))
    (ok_leaf (ok_goto (show decode cX11_ends 82 = .ok (.goto 4, 3) by decide +kernel) (by decide +kernel)))))
    (ok_node
    (ok_node
    (ok_leaf (ok_iconst (show decode cX11_ends 85 = .ok (.iconst 0, 1) by decide +kernel) (by decide +kernel)))
    (ok_leaf (ok_istore_n (show decode cX11_ends 86 = .ok (.istore_n 1, 1) by decide +kernel) rfl)))
    (ok_node
    (ok_leaf (ok_goto (show decode cX11_ends 87 = .ok (.goto (-74), 3) by decide +kernel) (by decide +kernel)))
    (ok_leaf (ok_return (show decode cX11_ends 90 = .ok (.return_, 1) by decide +kernel) rfl)))))))
set_option maxRecDepth 20000 in
set_option maxHeartbeats 4000000 in
theorem ok_X11_ofSide {sc : List Int32} : ∀ pc, pOk mtOf 189 M_X11_ofSide false sc pc (cd_X11_ofSide pc) := by
  unfold cd_X11_ofSide
  exact ok_node
    (ok_node
    (ok_node
    (ok_node
    (ok_node
    (ok_leaf (ok_aload_n (show decode cX11_ofSide 0 = .ok (.aload_n 0, 1) by decide +kernel) rfl))
    (ok_leaf (ok_iload_n (show decode cX11_ofSide 1 = .ok (.iload_n 1, 1) by decide +kernel) rfl)))
    (ok_node
    (ok_leaf (ok_iload_n (show decode cX11_ofSide 2 = .ok (.iload_n 2, 1) by decide +kernel) rfl))
    (ok_leaf (ok_callV (C := RX11) (T := TX11) (N := 31) (Mc := M_X11_beginOf) (show decode cX11_ofSide 3 = .ok (.invokevirtual 150, 3) by decide +kernel) rfl (by decide) (by decide +kernel) rfl rfl wd_631 wd_632 wd_633 wd_558 wd_634 ⟨by decide +kernel, by decide +kernel, by decide +kernel⟩ (by decide)))))
    (ok_node
    (ok_node
    (ok_leaf (ok_istore (show decode cX11_ofSide 6 = .ok (.istore 4, 2) by decide +kernel)))
    (ok_leaf (ok_aload_n (show decode cX11_ofSide 8 = .ok (.aload_n 0, 1) by decide +kernel) rfl)))
    (ok_node
    (ok_leaf (ok_iload_n (show decode cX11_ofSide 9 = .ok (.iload_n 1, 1) by decide +kernel) rfl))
    (ok_leaf (ok_iload_n (show decode cX11_ofSide 10 = .ok (.iload_n 2, 1) by decide +kernel) rfl)))))
    (ok_node
    (ok_node
    (ok_node
    (ok_leaf (ok_callV (C := RX11) (T := TX11) (N := 31) (Mc := M_X11_nodesOf) (show decode cX11_ofSide 11 = .ok (.invokevirtual 153, 3) by decide +kernel) rfl (by decide) (by decide +kernel) rfl rfl wd_635 wd_636 wd_637 wd_558 wd_638 ⟨by decide +kernel, by decide +kernel, by decide +kernel⟩ (by decide)))
    (ok_leaf (ok_istore (show decode cX11_ofSide 14 = .ok (.istore 5, 2) by decide +kernel))))
    (ok_node
    (ok_leaf (ok_iload_n (show decode cX11_ofSide 16 = .ok (.iload_n 3, 1) by decide +kernel) rfl))
    (ok_leaf (ok_if_ne (show decode cX11_ofSide 17 = .ok (.ifCond .ne 8, 3) by decide +kernel) (by decide +kernel)))))
    (ok_node
    (ok_node
    (ok_leaf (ok_iload (show decode cX11_ofSide 20 = .ok (.iload 5, 2) by decide +kernel)))
    (ok_leaf (ok_goto (show decode cX11_ofSide 22 = .ok (.goto 42, 3) by decide +kernel) (by decide +kernel))))
    (ok_node
    (ok_leaf (ok_iload_n (show decode cX11_ofSide 25 = .ok (.iload_n 3, 1) by decide +kernel) rfl))
    (ok_node
    (ok_leaf (ok_iconst (show decode cX11_ofSide 26 = .ok (.iconst 1, 1) by decide +kernel) (by decide +kernel)))
    (ok_leaf (ok_icmp_ne (show decode cX11_ofSide 27 = .ok (.if_icmp .ne 14, 3) by decide +kernel) (by decide +kernel))))))))
    (ok_node
    (ok_node
    (ok_node
    (ok_node
    (ok_leaf (ok_aload_n (show decode cX11_ofSide 30 = .ok (.aload_n 0, 1) by decide +kernel) rfl))
    (ok_leaf (ok_iload (show decode cX11_ofSide 31 = .ok (.iload 4, 2) by decide +kernel))))
    (ok_node
    (ok_leaf (ok_iload (show decode cX11_ofSide 33 = .ok (.iload 5, 2) by decide +kernel)))
    (ok_leaf (ok_callV (C := RX11) (T := TX11) (N := 31) (Mc := M_X11_flexIn) (show decode cX11_ofSide 35 = .ok (.invokevirtual 159, 3) by decide +kernel) rfl (by decide) (by decide +kernel) rfl rfl wd_643 wd_644 wd_645 wd_558 wd_646 ⟨by decide +kernel, by decide +kernel, by decide +kernel⟩ (by decide)))))
    (ok_node
    (ok_node
    (ok_leaf (ok_goto (show decode cX11_ofSide 38 = .ok (.goto 26, 3) by decide +kernel) (by decide +kernel)))
    (ok_leaf (ok_iload_n (show decode cX11_ofSide 41 = .ok (.iload_n 3, 1) by decide +kernel) rfl)))
    (ok_node
    (ok_leaf (ok_iconst (show decode cX11_ofSide 42 = .ok (.iconst 2, 1) by decide +kernel) (by decide +kernel)))
    (ok_node
    (ok_leaf (ok_icmp_ne (show decode cX11_ofSide 43 = .ok (.if_icmp .ne 14, 3) by decide +kernel) (by decide +kernel)))
    (ok_leaf (ok_aload_n (show decode cX11_ofSide 46 = .ok (.aload_n 0, 1) by decide +kernel) rfl))))))
    (ok_node
    (ok_node
    (ok_node
    (ok_leaf (ok_iload (show decode cX11_ofSide 47 = .ok (.iload 4, 2) by decide +kernel)))
    (ok_leaf (ok_iload (show decode cX11_ofSide 49 = .ok (.iload 5, 2) by decide +kernel))))
    (ok_node
    (ok_leaf (ok_callV (C := RX11) (T := TX11) (N := 31) (Mc := M_X11_deepOf) (show decode cX11_ofSide 51 = .ok (.invokevirtual 162, 3) by decide +kernel) rfl (by decide) (by decide +kernel) rfl rfl wd_647 wd_648 wd_649 wd_558 wd_650 ⟨by decide +kernel, by decide +kernel, by decide +kernel⟩ (by decide)))
    (ok_leaf (ok_goto (show decode cX11_ofSide 54 = .ok (.goto 10, 3) by decide +kernel) (by decide +kernel)))))
    (ok_node
    (ok_node
    (ok_leaf (ok_aload_n (show decode cX11_ofSide 57 = .ok (.aload_n 0, 1) by decide +kernel) rfl))
    (ok_leaf (ok_getfield (show decode cX11_ofSide 58 = .ok (.getfield 7, 3) by decide +kernel) (Or.inr (fdF_X11 (by decide) wd_536 rfl rfl)))))
    (ok_node
    (ok_leaf (ok_iload (show decode cX11_ofSide 61 = .ok (.iload 4, 2) by decide +kernel)))
    (ok_node
    (ok_leaf (ok_iaload (show decode cX11_ofSide 63 = .ok (.iaload, 1) by decide +kernel)))
    (ok_leaf (ok_ireturn (show decode cX11_ofSide 64 = .ok (.ireturn, 1) by decide +kernel) rfl)))))))
set_option maxRecDepth 20000 in
set_option maxHeartbeats 4000000 in
theorem ok_X11_of {sc : List Int32} : ∀ pc, pOk mtOf 189 M_X11_of false sc pc (cd_X11_of pc) := by
  unfold cd_X11_of
  exact ok_node
    (ok_node
    (ok_node
    (ok_node
    (ok_leaf (ok_aload_n (show decode cX11_of 0 = .ok (.aload_n 0, 1) by decide +kernel) rfl))
    (ok_leaf (ok_iload_n (show decode cX11_of 1 = .ok (.iload_n 1, 1) by decide +kernel) rfl)))
    (ok_node
    (ok_leaf (ok_callV (C := RX11) (T := TX11) (N := 31) (Mc := M_X11_isEquation) (show decode cX11_of 2 = .ok (.invokevirtual 147, 3) by decide +kernel) rfl (by decide) (by decide +kernel) rfl rfl wd_627 wd_628 wd_629 wd_558 wd_630 ⟨by decide +kernel, by decide +kernel, by decide +kernel⟩ (by decide)))
    (ok_node
    (ok_leaf (ok_if_eq (show decode cX11_of 5 = .ok (.ifCond .eq 29, 3) by decide +kernel) (by decide +kernel)))
    (ok_leaf (ok_iload_n (show decode cX11_of 8 = .ok (.iload_n 2, 1) by decide +kernel) rfl)))))
    (ok_node
    (ok_node
    (ok_leaf (ok_callS (Mc := M_X11_isSide) (show decode cX11_of 9 = .ok (.invokestatic 165, 3) by decide +kernel) rfl (by decide) (by decide +kernel) wd_651 wd_652 wd_558 wd_653 ⟨by decide +kernel, by decide +kernel, by decide +kernel⟩ (by decide)))
    (ok_leaf (ok_if_eq (show decode cX11_of 12 = .ok (.ifCond .eq 22, 3) by decide +kernel) (by decide +kernel))))
    (ok_node
    (ok_leaf (ok_iload_n (show decode cX11_of 15 = .ok (.iload_n 3, 1) by decide +kernel) rfl))
    (ok_node
    (ok_leaf (ok_iconst (show decode cX11_of 16 = .ok (.iconst 0, 1) by decide +kernel) (by decide +kernel)))
    (ok_leaf (ok_iconst (show decode cX11_of 17 = .ok (.iconst 3, 1) by decide +kernel) (by decide +kernel)))))))
    (ok_node
    (ok_node
    (ok_node
    (ok_leaf (ok_callS (Mc := M_X11_within) (show decode cX11_of 18 = .ok (.invokestatic 82, 3) by decide +kernel) rfl (by decide) (by decide +kernel) wd_566 wd_567 wd_558 wd_568 ⟨by decide +kernel, by decide +kernel, by decide +kernel⟩ (by decide)))
    (ok_leaf (ok_if_eq (show decode cX11_of 21 = .ok (.ifCond .eq 13, 3) by decide +kernel) (by decide +kernel))))
    (ok_node
    (ok_leaf (ok_aload_n (show decode cX11_of 24 = .ok (.aload_n 0, 1) by decide +kernel) rfl))
    (ok_node
    (ok_leaf (ok_iload_n (show decode cX11_of 25 = .ok (.iload_n 1, 1) by decide +kernel) rfl))
    (ok_leaf (ok_iload_n (show decode cX11_of 26 = .ok (.iload_n 2, 1) by decide +kernel) rfl)))))
    (ok_node
    (ok_node
    (ok_leaf (ok_iload_n (show decode cX11_of 27 = .ok (.iload_n 3, 1) by decide +kernel) rfl))
    (ok_node
    (ok_leaf (ok_callV (C := RX11) (T := TX11) (N := 31) (Mc := M_X11_ofSide) (show decode cX11_of 28 = .ok (.invokevirtual 168, 3) by decide +kernel) rfl (by decide) (by decide +kernel) rfl rfl wd_654 wd_655 wd_656 wd_558 wd_657 ⟨by decide +kernel, by decide +kernel, by decide +kernel⟩ (by decide)))
    (ok_leaf (ok_goto (show decode cX11_of 31 = .ok (.goto 7, 3) by decide +kernel) (by decide +kernel)))))
    (ok_node
    (ok_leaf (ok_aload_n (show decode cX11_of 34 = .ok (.aload_n 0, 1) by decide +kernel) rfl))
    (ok_node
    (ok_leaf (ok_callV (C := RX11) (T := TX11) (N := 31) (Mc := M_X11_bad) (show decode cX11_of 35 = .ok (.invokevirtual 101, 3) by decide +kernel) rfl (by decide) (by decide +kernel) rfl rfl wd_580 wd_581 wd_582 wd_558 wd_583 ⟨by decide +kernel, by decide +kernel, by decide +kernel⟩ (by decide)))
    (ok_leaf (ok_ireturn (show decode cX11_of 38 = .ok (.ireturn, 1) by decide +kernel) rfl))))))
set_option maxRecDepth 20000 in
set_option maxHeartbeats 4000000 in
theorem ok_X11_writes {sc : List Int32} : ∀ pc, pOk mtOf 189 M_X11_writes false sc pc (cd_X11_writes pc) := by
  unfold cd_X11_writes
  exact ok_node
    (ok_node
    (ok_node
    (ok_leaf (ok_aload_n (show decode cX11_writes 0 = .ok (.aload_n 0, 1) by decide +kernel) rfl))
    (ok_node
    (ok_leaf (ok_getfield (show decode cX11_writes 1 = .ok (.getfield 34, 3) by decide +kernel) (Or.inr (fdF_X11 (by decide) wd_544 rfl rfl))))
    (ok_leaf (ok_aload_n (show decode cX11_writes 4 = .ok (.aload_n 0, 1) by decide +kernel) rfl))))
    (ok_node
    (ok_leaf (ok_getfield (show decode cX11_writes 5 = .ok (.getfield 171, 3) by decide +kernel) (Or.inl (fd_X11 (by decide) wd_658 rfl rfl))))
    (ok_node
    (ok_leaf (ok_iload_n (show decode cX11_writes 8 = .ok (.iload_n 1, 1) by decide +kernel) rfl))
    (ok_leaf (ok_iastore (show decode cX11_writes 9 = .ok (.iastore, 1) by decide +kernel))))))
    (ok_node
    (ok_node
    (ok_leaf (ok_aload_n (show decode cX11_writes 10 = .ok (.aload_n 0, 1) by decide +kernel) rfl))
    (ok_node
    (ok_leaf (ok_dup (show decode cX11_writes 11 = .ok (.dup, 1) by decide +kernel)))
    (ok_leaf (ok_getfield (show decode cX11_writes 12 = .ok (.getfield 171, 3) by decide +kernel) (Or.inl (fd_X11 (by decide) wd_658 rfl rfl))))))
    (ok_node
    (ok_node
    (ok_leaf (ok_iconst (show decode cX11_writes 15 = .ok (.iconst 1, 1) by decide +kernel) (by decide +kernel)))
    (ok_leaf (ok_iadd (show decode cX11_writes 16 = .ok (.iadd, 1) by decide +kernel))))
    (ok_node
    (ok_leaf (ok_putI (show decode cX11_writes 17 = .ok (.putfield 171, 3) by decide +kernel) (Or.inl (fd_X11 (by decide) wd_658 rfl rfl)) rfl))
    (ok_leaf (ok_return (show decode cX11_writes 20 = .ok (.return_, 1) by decide +kernel) rfl)))))
set_option maxRecDepth 20000 in
set_option maxHeartbeats 4000000 in
theorem ok_X11_writesLetter {sc : List Int32} : ∀ pc, pOk mtOf 189 M_X11_writesLetter false sc pc (cd_X11_writesLetter pc) := by
  unfold cd_X11_writesLetter
  exact ok_node
    (ok_node
    (ok_node
    (ok_node
    (ok_node
    (ok_node
    (ok_leaf (ok_aload_n (show decode cX11_writesLetter 0 = .ok (.aload_n 0, 1) by decide +kernel) rfl))
    (ok_leaf (ok_iload_n (show decode cX11_writesLetter 1 = .ok (.iload_n 1, 1) by decide +kernel) rfl)))
    (ok_node
    (ok_leaf (ok_callV (C := RX11) (T := TX11) (N := 31) (Mc := M_X11_writes) (show decode cX11_writesLetter 2 = .ok (.invokevirtual 174, 3) by decide +kernel) rfl (by decide) (by decide +kernel) rfl rfl wd_659 wd_660 wd_661 wd_558 wd_662 ⟨by decide +kernel, by decide +kernel, by decide +kernel⟩ (by decide)))
    (ok_node
    (ok_leaf (ok_iload_n (show decode cX11_writesLetter 5 = .ok (.iload_n 1, 1) by decide +kernel) rfl))
    (ok_leaf (ok_callS (Mc := M_X11_partsOf) (show decode cX11_writesLetter 6 = .ok (.invokestatic 89, 3) by decide +kernel) rfl (by decide) (by decide +kernel) wd_572 wd_573 wd_558 wd_574 ⟨by decide +kernel, by decide +kernel, by decide +kernel⟩ (by decide))))))
    (ok_node
    (ok_node
    (ok_leaf (ok_istore_n (show decode cX11_writesLetter 9 = .ok (.istore_n 2, 1) by decide +kernel) rfl))
    (ok_leaf (ok_iload_n (show decode cX11_writesLetter 10 = .ok (.iload_n 2, 1) by decide +kernel) rfl)))
    (ok_node
    (ok_leaf (ok_if_le (show decode cX11_writesLetter 11 = .ok (.ifCond .le 30, 3) by decide +kernel) (by decide +kernel)))
    (ok_node
    (ok_leaf (ok_aload_n (show decode cX11_writesLetter 14 = .ok (.aload_n 0, 1) by decide +kernel) rfl))
    (ok_leaf (ok_bipush (show decode cX11_writesLetter 15 = .ok (.bipush 40, 2) by decide +kernel) (by decide +kernel)))))))
    (ok_node
    (ok_node
    (ok_node
    (ok_leaf (ok_callV (C := RX11) (T := TX11) (N := 31) (Mc := M_X11_writes) (show decode cX11_writesLetter 17 = .ok (.invokevirtual 174, 3) by decide +kernel) rfl (by decide) (by decide +kernel) rfl rfl wd_659 wd_660 wd_661 wd_558 wd_662 ⟨by decide +kernel, by decide +kernel, by decide +kernel⟩ (by decide)))
    (ok_leaf (ok_aload_n (show decode cX11_writesLetter 20 = .ok (.aload_n 0, 1) by decide +kernel) rfl)))
    (ok_node
    (ok_leaf (ok_getfield (show decode cX11_writesLetter 21 = .ok (.getfield 31, 3) by decide +kernel) (Or.inr (fdF_X11 (by decide) wd_543 rfl rfl))))
    (ok_node
    (ok_leaf (ok_aload_n (show decode cX11_writesLetter 24 = .ok (.aload_n 0, 1) by decide +kernel) rfl))
    (ok_leaf (ok_getfield (show decode cX11_writesLetter 25 = .ok (.getfield 122, 3) by decide +kernel) (Or.inl (fd_X11 (by decide) wd_598 rfl rfl)))))))
    (ok_node
    (ok_node
    (ok_leaf (ok_iload_n (show decode cX11_writesLetter 28 = .ok (.iload_n 2, 1) by decide +kernel) rfl))
    (ok_node
    (ok_leaf (ok_iastore (show decode cX11_writesLetter 29 = .ok (.iastore, 1) by decide +kernel)))
    (ok_leaf (ok_aload_n (show decode cX11_writesLetter 30 = .ok (.aload_n 0, 1) by decide +kernel) rfl))))
    (ok_node
    (ok_leaf (ok_dup (show decode cX11_writesLetter 31 = .ok (.dup, 1) by decide +kernel)))
    (ok_node
    (ok_leaf (ok_getfield (show decode cX11_writesLetter 32 = .ok (.getfield 122, 3) by decide +kernel) (Or.inl (fd_X11 (by decide) wd_598 rfl rfl))))
    (ok_leaf (ok_iconst (show decode cX11_writesLetter 35 = .ok (.iconst 1, 1) by decide +kernel) (by decide +kernel))))))))
    (ok_node
    (ok_node
    (ok_node
    (ok_node
    (ok_leaf (ok_iadd (show decode cX11_writesLetter 36 = .ok (.iadd, 1) by decide +kernel)))
    (ok_leaf (ok_putI (show decode cX11_writesLetter 37 = .ok (.putfield 122, 3) by decide +kernel) (Or.inl (fd_X11 (by decide) wd_598 rfl rfl)) rfl)))
    (ok_node
    (ok_leaf (ok_return (show decode cX11_writesLetter 40 = .ok (.return_, 1) by decide +kernel) rfl))
    (ok_node
    (ok_leaf (ok_aload_n (show decode cX11_writesLetter 41 = .ok (.aload_n 0, 1) by decide +kernel) rfl))
    (ok_leaf (ok_getfield (show decode cX11_writesLetter 42 = .ok (.getfield 122, 3) by decide +kernel) (Or.inl (fd_X11 (by decide) wd_598 rfl rfl)))))))
    (ok_node
    (ok_node
    (ok_leaf (ok_if_le (show decode cX11_writesLetter 45 = .ok (.ifCond .le 7, 3) by decide +kernel) (by decide +kernel)))
    (ok_leaf (ok_iconst (show decode cX11_writesLetter 48 = .ok (.iconst 1, 1) by decide +kernel) (by decide +kernel))))
    (ok_node
    (ok_leaf (ok_goto (show decode cX11_writesLetter 49 = .ok (.goto 4, 3) by decide +kernel) (by decide +kernel)))
    (ok_node
    (ok_leaf (ok_iconst (show decode cX11_writesLetter 52 = .ok (.iconst 0, 1) by decide +kernel) (by decide +kernel)))
    (ok_leaf (ok_istore_n (show decode cX11_writesLetter 53 = .ok (.istore_n 3, 1) by decide +kernel) rfl))))))
    (ok_node
    (ok_node
    (ok_node
    (ok_leaf (ok_iload_n (show decode cX11_writesLetter 54 = .ok (.iload_n 3, 1) by decide +kernel) rfl))
    (ok_leaf (ok_if_eq (show decode cX11_writesLetter 55 = .ok (.ifCond .eq 95, 3) by decide +kernel) (by decide +kernel))))
    (ok_node
    (ok_leaf (ok_aload_n (show decode cX11_writesLetter 58 = .ok (.aload_n 0, 1) by decide +kernel) rfl))
    (ok_node
    (ok_leaf (ok_getfield (show decode cX11_writesLetter 59 = .ok (.getfield 31, 3) by decide +kernel) (Or.inr (fdF_X11 (by decide) wd_543 rfl rfl))))
    (ok_leaf (ok_aload_n (show decode cX11_writesLetter 62 = .ok (.aload_n 0, 1) by decide +kernel) rfl)))))
    (ok_node
    (ok_node
    (ok_leaf (ok_getfield (show decode cX11_writesLetter 63 = .ok (.getfield 122, 3) by decide +kernel) (Or.inl (fd_X11 (by decide) wd_598 rfl rfl))))
    (ok_node
    (ok_leaf (ok_iconst (show decode cX11_writesLetter 66 = .ok (.iconst 1, 1) by decide +kernel) (by decide +kernel)))
    (ok_leaf (ok_isub (show decode cX11_writesLetter 67 = .ok (.isub, 1) by decide +kernel)))))
    (ok_node
    (ok_leaf (ok_dup2 (show decode cX11_writesLetter 68 = .ok (.dup2, 1) by decide +kernel)))
    (ok_node
    (ok_leaf (ok_iaload (show decode cX11_writesLetter 69 = .ok (.iaload, 1) by decide +kernel)))
    (ok_leaf (ok_iconst (show decode cX11_writesLetter 70 = .ok (.iconst 1, 1) by decide +kernel) (by decide +kernel)))))))))
    (ok_node
    (ok_node
    (ok_node
    (ok_node
    (ok_node
    (ok_leaf (ok_isub (show decode cX11_writesLetter 71 = .ok (.isub, 1) by decide +kernel)))
    (ok_leaf (ok_iastore (show decode cX11_writesLetter 72 = .ok (.iastore, 1) by decide +kernel))))
    (ok_node
    (ok_leaf (ok_aload_n (show decode cX11_writesLetter 73 = .ok (.aload_n 0, 1) by decide +kernel) rfl))
    (ok_node
    (ok_leaf (ok_getfield (show decode cX11_writesLetter 74 = .ok (.getfield 31, 3) by decide +kernel) (Or.inr (fdF_X11 (by decide) wd_543 rfl rfl))))
    (ok_leaf (ok_aload_n (show decode cX11_writesLetter 77 = .ok (.aload_n 0, 1) by decide +kernel) rfl)))))
    (ok_node
    (ok_node
    (ok_leaf (ok_getfield (show decode cX11_writesLetter 78 = .ok (.getfield 122, 3) by decide +kernel) (Or.inl (fd_X11 (by decide) wd_598 rfl rfl))))
    (ok_leaf (ok_iconst (show decode cX11_writesLetter 81 = .ok (.iconst 1, 1) by decide +kernel) (by decide +kernel))))
    (ok_node
    (ok_leaf (ok_isub (show decode cX11_writesLetter 82 = .ok (.isub, 1) by decide +kernel)))
    (ok_node
    (ok_leaf (ok_iaload (show decode cX11_writesLetter 83 = .ok (.iaload, 1) by decide +kernel)))
    (ok_leaf (ok_if_ne (show decode cX11_writesLetter 84 = .ok (.ifCond .ne 7, 3) by decide +kernel) (by decide +kernel)))))))
    (ok_node
    (ok_node
    (ok_node
    (ok_leaf (ok_iconst (show decode cX11_writesLetter 87 = .ok (.iconst 1, 1) by decide +kernel) (by decide +kernel)))
    (ok_leaf (ok_goto (show decode cX11_writesLetter 88 = .ok (.goto 4, 3) by decide +kernel) (by decide +kernel))))
    (ok_node
    (ok_leaf (ok_iconst (show decode cX11_writesLetter 91 = .ok (.iconst 0, 1) by decide +kernel) (by decide +kernel)))
    (ok_node
    (ok_leaf (ok_istore (show decode cX11_writesLetter 92 = .ok (.istore 4, 2) by decide +kernel)))
    (ok_leaf (ok_aload_n (show decode cX11_writesLetter 94 = .ok (.aload_n 0, 1) by decide +kernel) rfl)))))
    (ok_node
    (ok_node
    (ok_leaf (ok_iload (show decode cX11_writesLetter 95 = .ok (.iload 4, 2) by decide +kernel)))
    (ok_node
    (ok_leaf (ok_if_eq (show decode cX11_writesLetter 97 = .ok (.ifCond .eq 8, 3) by decide +kernel) (by decide +kernel)))
    (ok_leaf (ok_bipush (show decode cX11_writesLetter 100 = .ok (.bipush 41, 2) by decide +kernel) (by decide +kernel)))))
    (ok_node
    (ok_leaf (ok_goto (show decode cX11_writesLetter 102 = .ok (.goto 5, 3) by decide +kernel) (by decide +kernel)))
    (ok_node
    (ok_leaf (ok_bipush (show decode cX11_writesLetter 105 = .ok (.bipush 44, 2) by decide +kernel) (by decide +kernel)))
    (ok_leaf (ok_callV (C := RX11) (T := TX11) (N := 31) (Mc := M_X11_writes) (show decode cX11_writesLetter 107 = .ok (.invokevirtual 174, 3) by decide +kernel) rfl (by decide) (by decide +kernel) rfl rfl wd_659 wd_660 wd_661 wd_558 wd_662 ⟨by decide +kernel, by decide +kernel, by decide +kernel⟩ (by decide))))))))
    (ok_node
    (ok_node
    (ok_node
    (ok_node
    (ok_leaf (ok_aload_n (show decode cX11_writesLetter 110 = .ok (.aload_n 0, 1) by decide +kernel) rfl))
    (ok_leaf (ok_dup (show decode cX11_writesLetter 111 = .ok (.dup, 1) by decide +kernel))))
    (ok_node
    (ok_leaf (ok_getfield (show decode cX11_writesLetter 112 = .ok (.getfield 122, 3) by decide +kernel) (Or.inl (fd_X11 (by decide) wd_598 rfl rfl))))
    (ok_node
    (ok_leaf (ok_iload (show decode cX11_writesLetter 115 = .ok (.iload 4, 2) by decide +kernel)))
    (ok_leaf (ok_if_eq (show decode cX11_writesLetter 117 = .ok (.ifCond .eq 7, 3) by decide +kernel) (by decide +kernel))))))
    (ok_node
    (ok_node
    (ok_leaf (ok_iconst (show decode cX11_writesLetter 120 = .ok (.iconst 1, 1) by decide +kernel) (by decide +kernel)))
    (ok_leaf (ok_goto (show decode cX11_writesLetter 121 = .ok (.goto 4, 3) by decide +kernel) (by decide +kernel))))
    (ok_node
    (ok_leaf (ok_iconst (show decode cX11_writesLetter 124 = .ok (.iconst 0, 1) by decide +kernel) (by decide +kernel)))
    (ok_node
    (ok_leaf (ok_isub (show decode cX11_writesLetter 125 = .ok (.isub, 1) by decide +kernel)))
    (ok_leaf (ok_putI (show decode cX11_writesLetter 126 = .ok (.putfield 122, 3) by decide +kernel) (Or.inl (fd_X11 (by decide) wd_598 rfl rfl)) rfl))))))
    (ok_node
    (ok_node
    (ok_node
    (ok_leaf (ok_iload (show decode cX11_writesLetter 129 = .ok (.iload 4, 2) by decide +kernel)))
    (ok_leaf (ok_if_eq (show decode cX11_writesLetter 131 = .ok (.ifCond .eq 14, 3) by decide +kernel) (by decide +kernel))))
    (ok_node
    (ok_leaf (ok_aload_n (show decode cX11_writesLetter 134 = .ok (.aload_n 0, 1) by decide +kernel) rfl))
    (ok_node
    (ok_leaf (ok_getfield (show decode cX11_writesLetter 135 = .ok (.getfield 122, 3) by decide +kernel) (Or.inl (fd_X11 (by decide) wd_598 rfl rfl))))
    (ok_leaf (ok_if_le (show decode cX11_writesLetter 138 = .ok (.ifCond .le 7, 3) by decide +kernel) (by decide +kernel))))))
    (ok_node
    (ok_node
    (ok_leaf (ok_iconst (show decode cX11_writesLetter 141 = .ok (.iconst 1, 1) by decide +kernel) (by decide +kernel)))
    (ok_node
    (ok_leaf (ok_goto (show decode cX11_writesLetter 142 = .ok (.goto 4, 3) by decide +kernel) (by decide +kernel)))
    (ok_leaf (ok_iconst (show decode cX11_writesLetter 145 = .ok (.iconst 0, 1) by decide +kernel) (by decide +kernel)))))
    (ok_node
    (ok_leaf (ok_istore_n (show decode cX11_writesLetter 146 = .ok (.istore_n 3, 1) by decide +kernel) rfl))
    (ok_node
    (ok_leaf (ok_goto (show decode cX11_writesLetter 147 = .ok (.goto (-93), 3) by decide +kernel) (by decide +kernel)))
    (ok_leaf (ok_return (show decode cX11_writesLetter 150 = .ok (.return_, 1) by decide +kernel) rfl))))))))
set_option maxRecDepth 20000 in
set_option maxHeartbeats 4000000 in
theorem ok_X11_writesSide {sc : List Int32} : ∀ pc, pOk mtOf 189 M_X11_writesSide false sc pc (cd_X11_writesSide pc) := by
  unfold cd_X11_writesSide
  exact ok_node
    (ok_node
    (ok_node
    (ok_node
    (ok_leaf (ok_aload_n (show decode cX11_writesSide 0 = .ok (.aload_n 0, 1) by decide +kernel) rfl))
    (ok_node
    (ok_leaf (ok_iconst (show decode cX11_writesSide 1 = .ok (.iconst 0, 1) by decide +kernel) (by decide +kernel)))
    (ok_leaf (ok_putI (show decode cX11_writesSide 2 = .ok (.putfield 122, 3) by decide +kernel) (Or.inl (fd_X11 (by decide) wd_598 rfl rfl)) rfl))))
    (ok_node
    (ok_leaf (ok_aload_n (show decode cX11_writesSide 5 = .ok (.aload_n 0, 1) by decide +kernel) rfl))
    (ok_node
    (ok_leaf (ok_iload_n (show decode cX11_writesSide 6 = .ok (.iload_n 1, 1) by decide +kernel) rfl))
    (ok_leaf (ok_iload_n (show decode cX11_writesSide 7 = .ok (.iload_n 2, 1) by decide +kernel) rfl)))))
    (ok_node
    (ok_node
    (ok_leaf (ok_callV (C := RX11) (T := TX11) (N := 31) (Mc := M_X11_beginOf) (show decode cX11_writesSide 8 = .ok (.invokevirtual 150, 3) by decide +kernel) rfl (by decide) (by decide +kernel) rfl rfl wd_631 wd_632 wd_633 wd_558 wd_634 ⟨by decide +kernel, by decide +kernel, by decide +kernel⟩ (by decide)))
    (ok_node
    (ok_leaf (ok_istore_n (show decode cX11_writesSide 11 = .ok (.istore_n 3, 1) by decide +kernel) rfl))
    (ok_leaf (ok_iload_n (show decode cX11_writesSide 12 = .ok (.iload_n 3, 1) by decide +kernel) rfl))))
    (ok_node
    (ok_node
    (ok_leaf (ok_istore (show decode cX11_writesSide 13 = .ok (.istore 4, 2) by decide +kernel)))
    (ok_leaf (ok_iload (show decode cX11_writesSide 15 = .ok (.iload 4, 2) by decide +kernel))))
    (ok_node
    (ok_leaf (ok_iload_n (show decode cX11_writesSide 17 = .ok (.iload_n 3, 1) by decide +kernel) rfl))
    (ok_leaf (ok_aload_n (show decode cX11_writesSide 18 = .ok (.aload_n 0, 1) by decide +kernel) rfl))))))
    (ok_node
    (ok_node
    (ok_node
    (ok_leaf (ok_iload_n (show decode cX11_writesSide 19 = .ok (.iload_n 1, 1) by decide +kernel) rfl))
    (ok_node
    (ok_leaf (ok_iload_n (show decode cX11_writesSide 20 = .ok (.iload_n 2, 1) by decide +kernel) rfl))
    (ok_leaf (ok_callV (C := RX11) (T := TX11) (N := 31) (Mc := M_X11_nodesOf) (show decode cX11_writesSide 21 = .ok (.invokevirtual 153, 3) by decide +kernel) rfl (by decide) (by decide +kernel) rfl rfl wd_635 wd_636 wd_637 wd_558 wd_638 ⟨by decide +kernel, by decide +kernel, by decide +kernel⟩ (by decide)))))
    (ok_node
    (ok_node
    (ok_leaf (ok_iadd (show decode cX11_writesSide 24 = .ok (.iadd, 1) by decide +kernel)))
    (ok_leaf (ok_icmp_ge (show decode cX11_writesSide 25 = .ok (.if_icmp .ge 20, 3) by decide +kernel) (by decide +kernel))))
    (ok_node
    (ok_leaf (ok_aload_n (show decode cX11_writesSide 28 = .ok (.aload_n 0, 1) by decide +kernel) rfl))
    (ok_leaf (ok_aload_n (show decode cX11_writesSide 29 = .ok (.aload_n 0, 1) by decide +kernel) rfl)))))
    (ok_node
    (ok_node
    (ok_leaf (ok_getfield (show decode cX11_writesSide 30 = .ok (.getfield 7, 3) by decide +kernel) (Or.inr (fdF_X11 (by decide) wd_536 rfl rfl))))
    (ok_node
    (ok_leaf (ok_iload (show decode cX11_writesSide 33 = .ok (.iload 4, 2) by decide +kernel)))
    (ok_leaf (ok_iaload (show decode cX11_writesSide 35 = .ok (.iaload, 1) by decide +kernel)))))
    (ok_node
    (ok_node
    (ok_leaf (ok_callV (C := RX11) (T := TX11) (N := 31) (Mc := M_X11_writesLetter) (show decode cX11_writesSide 36 = .ok (.invokevirtual 178, 3) by decide +kernel) rfl (by decide) (by decide +kernel) rfl rfl wd_663 wd_664 wd_665 wd_558 wd_666 ⟨by decide +kernel, by decide +kernel, by decide +kernel⟩ (by decide)))
    (ok_leaf (ok_iinc (show decode cX11_writesSide 39 = .ok (.iinc 4 1, 3) by decide +kernel) (by decide +kernel))))
    (ok_node
    (ok_leaf (ok_goto (show decode cX11_writesSide 42 = .ok (.goto (-27), 3) by decide +kernel) (by decide +kernel)))
    (ok_leaf (ok_return (show decode cX11_writesSide 45 = .ok (.return_, 1) by decide +kernel) rfl))))))
set_option maxRecDepth 20000 in
set_option maxHeartbeats 4000000 in
theorem ok_X11_writtenAt {sc : List Int32} : ∀ pc, pOk mtOf 189 M_X11_writtenAt false sc pc (cd_X11_writtenAt pc) := by
  unfold cd_X11_writtenAt
  exact ok_node
    (ok_node
    (ok_node
    (ok_node
    (ok_leaf (ok_iload_n (show decode cX11_writtenAt 0 = .ok (.iload_n 1, 1) by decide +kernel) rfl))
    (ok_leaf (ok_iconst (show decode cX11_writtenAt 1 = .ok (.iconst (-1), 1) by decide +kernel) (by decide +kernel))))
    (ok_node
    (ok_leaf (ok_icmp_ne (show decode cX11_writtenAt 2 = .ok (.if_icmp .ne 10, 3) by decide +kernel) (by decide +kernel)))
    (ok_leaf (ok_aload_n (show decode cX11_writtenAt 5 = .ok (.aload_n 0, 1) by decide +kernel) rfl))))
    (ok_node
    (ok_node
    (ok_leaf (ok_getfield (show decode cX11_writtenAt 6 = .ok (.getfield 171, 3) by decide +kernel) (Or.inl (fd_X11 (by decide) wd_658 rfl rfl))))
    (ok_leaf (ok_goto (show decode cX11_writtenAt 9 = .ok (.goto 22, 3) by decide +kernel) (by decide +kernel))))
    (ok_node
    (ok_leaf (ok_iload_n (show decode cX11_writtenAt 12 = .ok (.iload_n 1, 1) by decide +kernel) rfl))
    (ok_leaf (ok_aload_n (show decode cX11_writtenAt 13 = .ok (.aload_n 0, 1) by decide +kernel) rfl)))))
    (ok_node
    (ok_node
    (ok_node
    (ok_leaf (ok_getfield (show decode cX11_writtenAt 14 = .ok (.getfield 171, 3) by decide +kernel) (Or.inl (fd_X11 (by decide) wd_658 rfl rfl))))
    (ok_leaf (ok_icmp_ge (show decode cX11_writtenAt 17 = .ok (.if_icmp .ge 12, 3) by decide +kernel) (by decide +kernel))))
    (ok_node
    (ok_leaf (ok_aload_n (show decode cX11_writtenAt 20 = .ok (.aload_n 0, 1) by decide +kernel) rfl))
    (ok_leaf (ok_getfield (show decode cX11_writtenAt 21 = .ok (.getfield 34, 3) by decide +kernel) (Or.inr (fdF_X11 (by decide) wd_544 rfl rfl))))))
    (ok_node
    (ok_node
    (ok_leaf (ok_iload_n (show decode cX11_writtenAt 24 = .ok (.iload_n 1, 1) by decide +kernel) rfl))
    (ok_leaf (ok_iaload (show decode cX11_writtenAt 25 = .ok (.iaload, 1) by decide +kernel))))
    (ok_node
    (ok_leaf (ok_goto (show decode cX11_writtenAt 26 = .ok (.goto 5, 3) by decide +kernel) (by decide +kernel)))
    (ok_node
    (ok_leaf (ok_bipush (show decode cX11_writtenAt 29 = .ok (.bipush (-5), 2) by decide +kernel) (by decide +kernel)))
    (ok_leaf (ok_ireturn (show decode cX11_writtenAt 31 = .ok (.ireturn, 1) by decide +kernel) rfl))))))
set_option maxRecDepth 20000 in
set_option maxHeartbeats 4000000 in
theorem ok_X11_shown {sc : List Int32} : ∀ pc, pOk mtOf 189 M_X11_shown false sc pc (cd_X11_shown pc) := by
  unfold cd_X11_shown
  exact ok_node
    (ok_node
    (ok_node
    (ok_node
    (ok_leaf (ok_aload_n (show decode cX11_shown 0 = .ok (.aload_n 0, 1) by decide +kernel) rfl))
    (ok_node
    (ok_leaf (ok_iload_n (show decode cX11_shown 1 = .ok (.iload_n 1, 1) by decide +kernel) rfl))
    (ok_leaf (ok_callV (C := RX11) (T := TX11) (N := 31) (Mc := M_X11_isEquation) (show decode cX11_shown 2 = .ok (.invokevirtual 147, 3) by decide +kernel) rfl (by decide) (by decide +kernel) rfl rfl wd_627 wd_628 wd_629 wd_558 wd_630 ⟨by decide +kernel, by decide +kernel, by decide +kernel⟩ (by decide)))))
    (ok_node
    (ok_node
    (ok_leaf (ok_if_eq (show decode cX11_shown 5 = .ok (.ifCond .eq 8, 3) by decide +kernel) (by decide +kernel)))
    (ok_leaf (ok_iload_n (show decode cX11_shown 8 = .ok (.iload_n 2, 1) by decide +kernel) rfl)))
    (ok_node
    (ok_leaf (ok_iconst (show decode cX11_shown 9 = .ok (.iconst (-1), 1) by decide +kernel) (by decide +kernel)))
    (ok_leaf (ok_icmp_ge (show decode cX11_shown 10 = .ok (.if_icmp .ge 8, 3) by decide +kernel) (by decide +kernel))))))
    (ok_node
    (ok_node
    (ok_leaf (ok_aload_n (show decode cX11_shown 13 = .ok (.aload_n 0, 1) by decide +kernel) rfl))
    (ok_node
    (ok_leaf (ok_callV (C := RX11) (T := TX11) (N := 31) (Mc := M_X11_bad) (show decode cX11_shown 14 = .ok (.invokevirtual 101, 3) by decide +kernel) rfl (by decide) (by decide +kernel) rfl rfl wd_580 wd_581 wd_582 wd_558 wd_583 ⟨by decide +kernel, by decide +kernel, by decide +kernel⟩ (by decide)))
    (ok_leaf (ok_ireturn (show decode cX11_shown 17 = .ok (.ireturn, 1) by decide +kernel) rfl))))
    (ok_node
    (ok_node
    (ok_leaf (ok_aload_n (show decode cX11_shown 18 = .ok (.aload_n 0, 1) by decide +kernel) rfl))
    (ok_leaf (ok_iconst (show decode cX11_shown 19 = .ok (.iconst 0, 1) by decide +kernel) (by decide +kernel))))
    (ok_node
    (ok_leaf (ok_putI (show decode cX11_shown 20 = .ok (.putfield 171, 3) by decide +kernel) (Or.inl (fd_X11 (by decide) wd_658 rfl rfl)) rfl))
    (ok_leaf (ok_aload_n (show decode cX11_shown 23 = .ok (.aload_n 0, 1) by decide +kernel) rfl))))))
    (ok_node
    (ok_node
    (ok_node
    (ok_leaf (ok_iload_n (show decode cX11_shown 24 = .ok (.iload_n 1, 1) by decide +kernel) rfl))
    (ok_node
    (ok_leaf (ok_iconst (show decode cX11_shown 25 = .ok (.iconst 0, 1) by decide +kernel) (by decide +kernel)))
    (ok_leaf (ok_callV (C := RX11) (T := TX11) (N := 31) (Mc := M_X11_writesSide) (show decode cX11_shown 26 = .ok (.invokevirtual 181, 3) by decide +kernel) rfl (by decide) (by decide +kernel) rfl rfl wd_667 wd_668 wd_669 wd_558 wd_670 ⟨by decide +kernel, by decide +kernel, by decide +kernel⟩ (by decide)))))
    (ok_node
    (ok_node
    (ok_leaf (ok_aload_n (show decode cX11_shown 29 = .ok (.aload_n 0, 1) by decide +kernel) rfl))
    (ok_leaf (ok_bipush (show decode cX11_shown 30 = .ok (.bipush 61, 2) by decide +kernel) (by decide +kernel))))
    (ok_node
    (ok_leaf (ok_callV (C := RX11) (T := TX11) (N := 31) (Mc := M_X11_writes) (show decode cX11_shown 32 = .ok (.invokevirtual 174, 3) by decide +kernel) rfl (by decide) (by decide +kernel) rfl rfl wd_659 wd_660 wd_661 wd_558 wd_662 ⟨by decide +kernel, by decide +kernel, by decide +kernel⟩ (by decide)))
    (ok_leaf (ok_aload_n (show decode cX11_shown 35 = .ok (.aload_n 0, 1) by decide +kernel) rfl)))))
    (ok_node
    (ok_node
    (ok_leaf (ok_iload_n (show decode cX11_shown 36 = .ok (.iload_n 1, 1) by decide +kernel) rfl))
    (ok_node
    (ok_leaf (ok_iconst (show decode cX11_shown 37 = .ok (.iconst 1, 1) by decide +kernel) (by decide +kernel)))
    (ok_leaf (ok_callV (C := RX11) (T := TX11) (N := 31) (Mc := M_X11_writesSide) (show decode cX11_shown 38 = .ok (.invokevirtual 181, 3) by decide +kernel) rfl (by decide) (by decide +kernel) rfl rfl wd_667 wd_668 wd_669 wd_558 wd_670 ⟨by decide +kernel, by decide +kernel, by decide +kernel⟩ (by decide)))))
    (ok_node
    (ok_node
    (ok_leaf (ok_aload_n (show decode cX11_shown 41 = .ok (.aload_n 0, 1) by decide +kernel) rfl))
    (ok_leaf (ok_iload_n (show decode cX11_shown 42 = .ok (.iload_n 2, 1) by decide +kernel) rfl)))
    (ok_node
    (ok_leaf (ok_callV (C := RX11) (T := TX11) (N := 31) (Mc := M_X11_writtenAt) (show decode cX11_shown 43 = .ok (.invokevirtual 185, 3) by decide +kernel) rfl (by decide) (by decide +kernel) rfl rfl wd_671 wd_672 wd_673 wd_558 wd_674 ⟨by decide +kernel, by decide +kernel, by decide +kernel⟩ (by decide)))
    (ok_leaf (ok_ireturn (show decode cX11_shown 46 = .ok (.ireturn, 1) by decide +kernel) rfl))))))
set_option maxRecDepth 20000 in
set_option maxHeartbeats 4000000 in
theorem ok_X11_behind {sc : List Int32} : ∀ pc, pOk mtOf 189 M_X11_behind false sc pc (cd_X11_behind pc) := by
  unfold cd_X11_behind
  exact ok_node
    (ok_node
    (ok_node
    (ok_node
    (ok_leaf (ok_iconst (show decode cX11_behind 0 = .ok (.iconst 1, 1) by decide +kernel) (by decide +kernel)))
    (ok_leaf (ok_istore_n (show decode cX11_behind 1 = .ok (.istore_n 2, 1) by decide +kernel) rfl)))
    (ok_node
    (ok_leaf (ok_iload_n (show decode cX11_behind 2 = .ok (.iload_n 1, 1) by decide +kernel) rfl))
    (ok_node
    (ok_leaf (ok_istore_n (show decode cX11_behind 3 = .ok (.istore_n 3, 1) by decide +kernel) rfl))
    (ok_leaf (ok_iload_n (show decode cX11_behind 4 = .ok (.iload_n 2, 1) by decide +kernel) rfl)))))
    (ok_node
    (ok_node
    (ok_leaf (ok_if_le (show decode cX11_behind 5 = .ok (.ifCond .le 23, 3) by decide +kernel) (by decide +kernel)))
    (ok_leaf (ok_iload_n (show decode cX11_behind 8 = .ok (.iload_n 2, 1) by decide +kernel) rfl)))
    (ok_node
    (ok_leaf (ok_aload_n (show decode cX11_behind 9 = .ok (.aload_n 0, 1) by decide +kernel) rfl))
    (ok_node
    (ok_leaf (ok_getfield (show decode cX11_behind 10 = .ok (.getfield 7, 3) by decide +kernel) (Or.inr (fdF_X11 (by decide) wd_536 rfl rfl))))
    (ok_leaf (ok_iload_n (show decode cX11_behind 13 = .ok (.iload_n 3, 1) by decide +kernel) rfl))))))
    (ok_node
    (ok_node
    (ok_node
    (ok_leaf (ok_iaload (show decode cX11_behind 14 = .ok (.iaload, 1) by decide +kernel)))
    (ok_leaf (ok_callS (Mc := M_X11_partsOf) (show decode cX11_behind 15 = .ok (.invokestatic 89, 3) by decide +kernel) rfl (by decide) (by decide +kernel) wd_572 wd_573 wd_558 wd_574 ⟨by decide +kernel, by decide +kernel, by decide +kernel⟩ (by decide))))
    (ok_node
    (ok_leaf (ok_iconst (show decode cX11_behind 18 = .ok (.iconst 1, 1) by decide +kernel) (by decide +kernel)))
    (ok_node
    (ok_leaf (ok_isub (show decode cX11_behind 19 = .ok (.isub, 1) by decide +kernel)))
    (ok_leaf (ok_iadd (show decode cX11_behind 20 = .ok (.iadd, 1) by decide +kernel))))))
    (ok_node
    (ok_node
    (ok_leaf (ok_istore_n (show decode cX11_behind 21 = .ok (.istore_n 2, 1) by decide +kernel) rfl))
    (ok_leaf (ok_iinc (show decode cX11_behind 22 = .ok (.iinc 3 1, 3) by decide +kernel) (by decide +kernel))))
    (ok_node
    (ok_leaf (ok_goto (show decode cX11_behind 25 = .ok (.goto (-21), 3) by decide +kernel) (by decide +kernel)))
    (ok_node
    (ok_leaf (ok_iload_n (show decode cX11_behind 28 = .ok (.iload_n 3, 1) by decide +kernel) rfl))
    (ok_leaf (ok_ireturn (show decode cX11_behind 29 = .ok (.ireturn, 1) by decide +kernel) rfl))))))
set_option maxRecDepth 20000 in
set_option maxHeartbeats 4000000 in
theorem ok_X11_comesIn {sc : List Int32} : ∀ pc, pOk mtOf 189 M_X11_comesIn false sc pc (cd_X11_comesIn pc) := by
  unfold cd_X11_comesIn
  exact ok_node
    (ok_node
    (ok_node
    (ok_node
    (ok_node
    (ok_leaf (ok_aload_n (show decode cX11_comesIn 0 = .ok (.aload_n 0, 1) by decide +kernel) rfl))
    (ok_leaf (ok_getfield (show decode cX11_comesIn 1 = .ok (.getfield 188, 3) by decide +kernel) (Or.inl (fd_X11 (by decide) wd_675 rfl rfl)))))
    (ok_node
    (ok_leaf (ok_istore (show decode cX11_comesIn 4 = .ok (.istore 4, 2) by decide +kernel)))
    (ok_node
    (ok_leaf (ok_iload (show decode cX11_comesIn 6 = .ok (.iload 4, 2) by decide +kernel)))
    (ok_leaf (ok_iload_n (show decode cX11_comesIn 8 = .ok (.iload_n 1, 1) by decide +kernel) rfl)))))
    (ok_node
    (ok_node
    (ok_leaf (ok_icmp_le (show decode cX11_comesIn 9 = .ok (.if_icmp .le 41, 3) by decide +kernel) (by decide +kernel)))
    (ok_node
    (ok_leaf (ok_aload_n (show decode cX11_comesIn 12 = .ok (.aload_n 0, 1) by decide +kernel) rfl))
    (ok_leaf (ok_getfield (show decode cX11_comesIn 13 = .ok (.getfield 37, 3) by decide +kernel) (Or.inr (fdF_X11 (by decide) wd_545 rfl rfl))))))
    (ok_node
    (ok_leaf (ok_iload (show decode cX11_comesIn 16 = .ok (.iload 4, 2) by decide +kernel)))
    (ok_node
    (ok_leaf (ok_aload_n (show decode cX11_comesIn 18 = .ok (.aload_n 0, 1) by decide +kernel) rfl))
    (ok_leaf (ok_getfield (show decode cX11_comesIn 19 = .ok (.getfield 37, 3) by decide +kernel) (Or.inr (fdF_X11 (by decide) wd_545 rfl rfl))))))))
    (ok_node
    (ok_node
    (ok_node
    (ok_leaf (ok_iload (show decode cX11_comesIn 22 = .ok (.iload 4, 2) by decide +kernel)))
    (ok_leaf (ok_iconst (show decode cX11_comesIn 24 = .ok (.iconst 1, 1) by decide +kernel) (by decide +kernel))))
    (ok_node
    (ok_leaf (ok_isub (show decode cX11_comesIn 25 = .ok (.isub, 1) by decide +kernel)))
    (ok_node
    (ok_leaf (ok_iaload (show decode cX11_comesIn 26 = .ok (.iaload, 1) by decide +kernel)))
    (ok_leaf (ok_iastore (show decode cX11_comesIn 27 = .ok (.iastore, 1) by decide +kernel))))))
    (ok_node
    (ok_node
    (ok_leaf (ok_aload_n (show decode cX11_comesIn 28 = .ok (.aload_n 0, 1) by decide +kernel) rfl))
    (ok_node
    (ok_leaf (ok_getfield (show decode cX11_comesIn 29 = .ok (.getfield 40, 3) by decide +kernel) (Or.inr (fdF_X11 (by decide) wd_546 rfl rfl))))
    (ok_leaf (ok_iload (show decode cX11_comesIn 32 = .ok (.iload 4, 2) by decide +kernel)))))
    (ok_node
    (ok_leaf (ok_aload_n (show decode cX11_comesIn 34 = .ok (.aload_n 0, 1) by decide +kernel) rfl))
    (ok_node
    (ok_leaf (ok_getfield (show decode cX11_comesIn 35 = .ok (.getfield 40, 3) by decide +kernel) (Or.inr (fdF_X11 (by decide) wd_546 rfl rfl))))
    (ok_leaf (ok_iload (show decode cX11_comesIn 38 = .ok (.iload 4, 2) by decide +kernel))))))))
    (ok_node
    (ok_node
    (ok_node
    (ok_node
    (ok_leaf (ok_iconst (show decode cX11_comesIn 40 = .ok (.iconst 1, 1) by decide +kernel) (by decide +kernel)))
    (ok_leaf (ok_isub (show decode cX11_comesIn 41 = .ok (.isub, 1) by decide +kernel))))
    (ok_node
    (ok_leaf (ok_iaload (show decode cX11_comesIn 42 = .ok (.iaload, 1) by decide +kernel)))
    (ok_node
    (ok_leaf (ok_iastore (show decode cX11_comesIn 43 = .ok (.iastore, 1) by decide +kernel)))
    (ok_leaf (ok_iinc (show decode cX11_comesIn 44 = .ok (.iinc 4 (-1), 3) by decide +kernel) (by decide +kernel))))))
    (ok_node
    (ok_node
    (ok_leaf (ok_goto (show decode cX11_comesIn 47 = .ok (.goto (-41), 3) by decide +kernel) (by decide +kernel)))
    (ok_node
    (ok_leaf (ok_aload_n (show decode cX11_comesIn 50 = .ok (.aload_n 0, 1) by decide +kernel) rfl))
    (ok_leaf (ok_getfield (show decode cX11_comesIn 51 = .ok (.getfield 37, 3) by decide +kernel) (Or.inr (fdF_X11 (by decide) wd_545 rfl rfl))))))
    (ok_node
    (ok_leaf (ok_iload_n (show decode cX11_comesIn 54 = .ok (.iload_n 1, 1) by decide +kernel) rfl))
    (ok_node
    (ok_leaf (ok_iload_n (show decode cX11_comesIn 55 = .ok (.iload_n 2, 1) by decide +kernel) rfl))
    (ok_leaf (ok_iastore (show decode cX11_comesIn 56 = .ok (.iastore, 1) by decide +kernel)))))))
    (ok_node
    (ok_node
    (ok_node
    (ok_leaf (ok_aload_n (show decode cX11_comesIn 57 = .ok (.aload_n 0, 1) by decide +kernel) rfl))
    (ok_node
    (ok_leaf (ok_getfield (show decode cX11_comesIn 58 = .ok (.getfield 40, 3) by decide +kernel) (Or.inr (fdF_X11 (by decide) wd_546 rfl rfl))))
    (ok_leaf (ok_iload_n (show decode cX11_comesIn 61 = .ok (.iload_n 1, 1) by decide +kernel) rfl))))
    (ok_node
    (ok_leaf (ok_iload_n (show decode cX11_comesIn 62 = .ok (.iload_n 3, 1) by decide +kernel) rfl))
    (ok_node
    (ok_leaf (ok_iastore (show decode cX11_comesIn 63 = .ok (.iastore, 1) by decide +kernel)))
    (ok_leaf (ok_aload_n (show decode cX11_comesIn 64 = .ok (.aload_n 0, 1) by decide +kernel) rfl)))))
    (ok_node
    (ok_node
    (ok_leaf (ok_dup (show decode cX11_comesIn 65 = .ok (.dup, 1) by decide +kernel)))
    (ok_node
    (ok_leaf (ok_getfield (show decode cX11_comesIn 66 = .ok (.getfield 188, 3) by decide +kernel) (Or.inl (fd_X11 (by decide) wd_675 rfl rfl))))
    (ok_leaf (ok_iconst (show decode cX11_comesIn 69 = .ok (.iconst 1, 1) by decide +kernel) (by decide +kernel)))))
    (ok_node
    (ok_leaf (ok_iadd (show decode cX11_comesIn 70 = .ok (.iadd, 1) by decide +kernel)))
    (ok_node
    (ok_leaf (ok_putI (show decode cX11_comesIn 71 = .ok (.putfield 188, 3) by decide +kernel) (Or.inl (fd_X11 (by decide) wd_675 rfl rfl)) rfl))
    (ok_leaf (ok_return (show decode cX11_comesIn 74 = .ok (.return_, 1) by decide +kernel) rfl)))))))
set_option maxRecDepth 20000 in
set_option maxHeartbeats 4000000 in
theorem ok_X11_goesOut {sc : List Int32} : ∀ pc, pOk mtOf 189 M_X11_goesOut false sc pc (cd_X11_goesOut pc) := by
  unfold cd_X11_goesOut
  exact ok_node
    (ok_node
    (ok_node
    (ok_node
    (ok_node
    (ok_leaf (ok_aload_n (show decode cX11_goesOut 0 = .ok (.aload_n 0, 1) by decide +kernel) rfl))
    (ok_leaf (ok_dup (show decode cX11_goesOut 1 = .ok (.dup, 1) by decide +kernel))))
    (ok_node
    (ok_leaf (ok_getfield (show decode cX11_goesOut 2 = .ok (.getfield 188, 3) by decide +kernel) (Or.inl (fd_X11 (by decide) wd_675 rfl rfl))))
    (ok_leaf (ok_iconst (show decode cX11_goesOut 5 = .ok (.iconst 1, 1) by decide +kernel) (by decide +kernel)))))
    (ok_node
    (ok_node
    (ok_leaf (ok_isub (show decode cX11_goesOut 6 = .ok (.isub, 1) by decide +kernel)))
    (ok_leaf (ok_putI (show decode cX11_goesOut 7 = .ok (.putfield 188, 3) by decide +kernel) (Or.inl (fd_X11 (by decide) wd_675 rfl rfl)) rfl)))
    (ok_node
    (ok_leaf (ok_iload_n (show decode cX11_goesOut 10 = .ok (.iload_n 1, 1) by decide +kernel) rfl))
    (ok_leaf (ok_istore_n (show decode cX11_goesOut 11 = .ok (.istore_n 2, 1) by decide +kernel) rfl)))))
    (ok_node
    (ok_node
    (ok_node
    (ok_leaf (ok_iload_n (show decode cX11_goesOut 12 = .ok (.iload_n 2, 1) by decide +kernel) rfl))
    (ok_leaf (ok_aload_n (show decode cX11_goesOut 13 = .ok (.aload_n 0, 1) by decide +kernel) rfl)))
    (ok_node
    (ok_leaf (ok_getfield (show decode cX11_goesOut 14 = .ok (.getfield 188, 3) by decide +kernel) (Or.inl (fd_X11 (by decide) wd_675 rfl rfl))))
    (ok_leaf (ok_icmp_ge (show decode cX11_goesOut 17 = .ok (.if_icmp .ge 37, 3) by decide +kernel) (by decide +kernel)))))
    (ok_node
    (ok_node
    (ok_leaf (ok_aload_n (show decode cX11_goesOut 20 = .ok (.aload_n 0, 1) by decide +kernel) rfl))
    (ok_leaf (ok_getfield (show decode cX11_goesOut 21 = .ok (.getfield 37, 3) by decide +kernel) (Or.inr (fdF_X11 (by decide) wd_545 rfl rfl)))))
    (ok_node
    (ok_leaf (ok_iload_n (show decode cX11_goesOut 24 = .ok (.iload_n 2, 1) by decide +kernel) rfl))
    (ok_node
    (ok_leaf (ok_aload_n (show decode cX11_goesOut 25 = .ok (.aload_n 0, 1) by decide +kernel) rfl))
    (ok_leaf (ok_getfield (show decode cX11_goesOut 26 = .ok (.getfield 37, 3) by decide +kernel) (Or.inr (fdF_X11 (by decide) wd_545 rfl rfl)))))))))
    (ok_node
    (ok_node
    (ok_node
    (ok_node
    (ok_leaf (ok_iload_n (show decode cX11_goesOut 29 = .ok (.iload_n 2, 1) by decide +kernel) rfl))
    (ok_leaf (ok_iconst (show decode cX11_goesOut 30 = .ok (.iconst 1, 1) by decide +kernel) (by decide +kernel))))
    (ok_node
    (ok_leaf (ok_iadd (show decode cX11_goesOut 31 = .ok (.iadd, 1) by decide +kernel)))
    (ok_leaf (ok_iaload (show decode cX11_goesOut 32 = .ok (.iaload, 1) by decide +kernel)))))
    (ok_node
    (ok_node
    (ok_leaf (ok_iastore (show decode cX11_goesOut 33 = .ok (.iastore, 1) by decide +kernel)))
    (ok_leaf (ok_aload_n (show decode cX11_goesOut 34 = .ok (.aload_n 0, 1) by decide +kernel) rfl)))
    (ok_node
    (ok_leaf (ok_getfield (show decode cX11_goesOut 35 = .ok (.getfield 40, 3) by decide +kernel) (Or.inr (fdF_X11 (by decide) wd_546 rfl rfl))))
    (ok_node
    (ok_leaf (ok_iload_n (show decode cX11_goesOut 38 = .ok (.iload_n 2, 1) by decide +kernel) rfl))
    (ok_leaf (ok_aload_n (show decode cX11_goesOut 39 = .ok (.aload_n 0, 1) by decide +kernel) rfl))))))
    (ok_node
    (ok_node
    (ok_node
    (ok_leaf (ok_getfield (show decode cX11_goesOut 40 = .ok (.getfield 40, 3) by decide +kernel) (Or.inr (fdF_X11 (by decide) wd_546 rfl rfl))))
    (ok_leaf (ok_iload_n (show decode cX11_goesOut 43 = .ok (.iload_n 2, 1) by decide +kernel) rfl)))
    (ok_node
    (ok_leaf (ok_iconst (show decode cX11_goesOut 44 = .ok (.iconst 1, 1) by decide +kernel) (by decide +kernel)))
    (ok_leaf (ok_iadd (show decode cX11_goesOut 45 = .ok (.iadd, 1) by decide +kernel)))))
    (ok_node
    (ok_node
    (ok_leaf (ok_iaload (show decode cX11_goesOut 46 = .ok (.iaload, 1) by decide +kernel)))
    (ok_leaf (ok_iastore (show decode cX11_goesOut 47 = .ok (.iastore, 1) by decide +kernel))))
    (ok_node
    (ok_leaf (ok_iinc (show decode cX11_goesOut 48 = .ok (.iinc 2 1, 3) by decide +kernel) (by decide +kernel)))
    (ok_node
    (ok_leaf (ok_goto (show decode cX11_goesOut 51 = .ok (.goto (-39), 3) by decide +kernel) (by decide +kernel)))
    (ok_leaf (ok_return (show decode cX11_goesOut 54 = .ok (.return_, 1) by decide +kernel) rfl)))))))
set_option maxRecDepth 20000 in
set_option maxHeartbeats 4000000 in
theorem ok_X11_takesApart {sc : List Int32} : ∀ pc, pOk mtOf 189 M_X11_takesApart false sc pc (cd_X11_takesApart pc) := by
  unfold cd_X11_takesApart
  exact ok_node
    (ok_node
    (ok_node
    (ok_node
    (ok_node
    (ok_leaf (ok_aload_n (show decode cX11_takesApart 0 = .ok (.aload_n 0, 1) by decide +kernel) rfl))
    (ok_leaf (ok_getfield (show decode cX11_takesApart 1 = .ok (.getfield 37, 3) by decide +kernel) (Or.inr (fdF_X11 (by decide) wd_545 rfl rfl)))))
    (ok_node
    (ok_leaf (ok_iload_n (show decode cX11_takesApart 4 = .ok (.iload_n 1, 1) by decide +kernel) rfl))
    (ok_node
    (ok_leaf (ok_iaload (show decode cX11_takesApart 5 = .ok (.iaload, 1) by decide +kernel)))
    (ok_leaf (ok_istore_n (show decode cX11_takesApart 6 = .ok (.istore_n 2, 1) by decide +kernel) rfl)))))
    (ok_node
    (ok_node
    (ok_leaf (ok_aload_n (show decode cX11_takesApart 7 = .ok (.aload_n 0, 1) by decide +kernel) rfl))
    (ok_node
    (ok_leaf (ok_getfield (show decode cX11_takesApart 8 = .ok (.getfield 40, 3) by decide +kernel) (Or.inr (fdF_X11 (by decide) wd_546 rfl rfl))))
    (ok_leaf (ok_iload_n (show decode cX11_takesApart 11 = .ok (.iload_n 1, 1) by decide +kernel) rfl))))
    (ok_node
    (ok_leaf (ok_iaload (show decode cX11_takesApart 12 = .ok (.iaload, 1) by decide +kernel)))
    (ok_node
    (ok_leaf (ok_istore_n (show decode cX11_takesApart 13 = .ok (.istore_n 3, 1) by decide +kernel) rfl))
    (ok_leaf (ok_aload_n (show decode cX11_takesApart 14 = .ok (.aload_n 0, 1) by decide +kernel) rfl))))))
    (ok_node
    (ok_node
    (ok_node
    (ok_leaf (ok_getfield (show decode cX11_takesApart 15 = .ok (.getfield 7, 3) by decide +kernel) (Or.inr (fdF_X11 (by decide) wd_536 rfl rfl))))
    (ok_node
    (ok_leaf (ok_iload_n (show decode cX11_takesApart 18 = .ok (.iload_n 2, 1) by decide +kernel) rfl))
    (ok_leaf (ok_iaload (show decode cX11_takesApart 19 = .ok (.iaload, 1) by decide +kernel)))))
    (ok_node
    (ok_leaf (ok_callS (Mc := M_X11_partsOf) (show decode cX11_takesApart 20 = .ok (.invokestatic 89, 3) by decide +kernel) rfl (by decide) (by decide +kernel) wd_572 wd_573 wd_558 wd_574 ⟨by decide +kernel, by decide +kernel, by decide +kernel⟩ (by decide)))
    (ok_node
    (ok_leaf (ok_istore (show decode cX11_takesApart 23 = .ok (.istore 4, 2) by decide +kernel)))
    (ok_leaf (ok_aload_n (show decode cX11_takesApart 25 = .ok (.aload_n 0, 1) by decide +kernel) rfl)))))
    (ok_node
    (ok_node
    (ok_leaf (ok_iload_n (show decode cX11_takesApart 26 = .ok (.iload_n 1, 1) by decide +kernel) rfl))
    (ok_node
    (ok_leaf (ok_callV (C := RX11) (T := TX11) (N := 31) (Mc := M_X11_goesOut) (show decode cX11_takesApart 27 = .ok (.invokevirtual 191, 3) by decide +kernel) rfl (by decide) (by decide +kernel) rfl rfl wd_676 wd_677 wd_678 wd_558 wd_679 ⟨by decide +kernel, by decide +kernel, by decide +kernel⟩ (by decide)))
    (ok_leaf (ok_iload (show decode cX11_takesApart 30 = .ok (.iload 4, 2) by decide +kernel)))))
    (ok_node
    (ok_leaf (ok_iconst (show decode cX11_takesApart 32 = .ok (.iconst 2, 1) by decide +kernel) (by decide +kernel)))
    (ok_node
    (ok_leaf (ok_icmp_ne (show decode cX11_takesApart 33 = .ok (.if_icmp .ne 22, 3) by decide +kernel) (by decide +kernel)))
    (ok_leaf (ok_aload_n (show decode cX11_takesApart 36 = .ok (.aload_n 0, 1) by decide +kernel) rfl)))))))
    (ok_node
    (ok_node
    (ok_node
    (ok_node
    (ok_leaf (ok_iload_n (show decode cX11_takesApart 37 = .ok (.iload_n 1, 1) by decide +kernel) rfl))
    (ok_node
    (ok_leaf (ok_aload_n (show decode cX11_takesApart 38 = .ok (.aload_n 0, 1) by decide +kernel) rfl))
    (ok_leaf (ok_iload_n (show decode cX11_takesApart 39 = .ok (.iload_n 2, 1) by decide +kernel) rfl))))
    (ok_node
    (ok_leaf (ok_iconst (show decode cX11_takesApart 40 = .ok (.iconst 1, 1) by decide +kernel) (by decide +kernel)))
    (ok_node
    (ok_leaf (ok_iadd (show decode cX11_takesApart 41 = .ok (.iadd, 1) by decide +kernel)))
    (ok_leaf (ok_callV (C := RX11) (T := TX11) (N := 31) (Mc := M_X11_behind) (show decode cX11_takesApart 42 = .ok (.invokevirtual 194, 3) by decide +kernel) rfl (by decide) (by decide +kernel) rfl rfl wd_680 wd_681 wd_682 wd_558 wd_683 ⟨by decide +kernel, by decide +kernel, by decide +kernel⟩ (by decide))))))
    (ok_node
    (ok_node
    (ok_leaf (ok_aload_n (show decode cX11_takesApart 45 = .ok (.aload_n 0, 1) by decide +kernel) rfl))
    (ok_node
    (ok_leaf (ok_iload_n (show decode cX11_takesApart 46 = .ok (.iload_n 3, 1) by decide +kernel) rfl))
    (ok_leaf (ok_iconst (show decode cX11_takesApart 47 = .ok (.iconst 1, 1) by decide +kernel) (by decide +kernel)))))
    (ok_node
    (ok_leaf (ok_iadd (show decode cX11_takesApart 48 = .ok (.iadd, 1) by decide +kernel)))
    (ok_node
    (ok_leaf (ok_callV (C := RX11) (T := TX11) (N := 31) (Mc := M_X11_behind) (show decode cX11_takesApart 49 = .ok (.invokevirtual 194, 3) by decide +kernel) rfl (by decide) (by decide +kernel) rfl rfl wd_680 wd_681 wd_682 wd_558 wd_683 ⟨by decide +kernel, by decide +kernel, by decide +kernel⟩ (by decide)))
    (ok_leaf (ok_callV (C := RX11) (T := TX11) (N := 31) (Mc := M_X11_comesIn) (show decode cX11_takesApart 52 = .ok (.invokevirtual 197, 3) by decide +kernel) rfl (by decide) (by decide +kernel) rfl rfl wd_684 wd_685 wd_686 wd_558 wd_687 ⟨by decide +kernel, by decide +kernel, by decide +kernel⟩ (by decide)))))))
    (ok_node
    (ok_node
    (ok_node
    (ok_leaf (ok_iload (show decode cX11_takesApart 55 = .ok (.iload 4, 2) by decide +kernel)))
    (ok_node
    (ok_leaf (ok_if_le (show decode cX11_takesApart 57 = .ok (.ifCond .le 14, 3) by decide +kernel) (by decide +kernel)))
    (ok_leaf (ok_aload_n (show decode cX11_takesApart 60 = .ok (.aload_n 0, 1) by decide +kernel) rfl))))
    (ok_node
    (ok_leaf (ok_iload_n (show decode cX11_takesApart 61 = .ok (.iload_n 1, 1) by decide +kernel) rfl))
    (ok_node
    (ok_leaf (ok_iload_n (show decode cX11_takesApart 62 = .ok (.iload_n 2, 1) by decide +kernel) rfl))
    (ok_leaf (ok_iconst (show decode cX11_takesApart 63 = .ok (.iconst 1, 1) by decide +kernel) (by decide +kernel))))))
    (ok_node
    (ok_node
    (ok_leaf (ok_iadd (show decode cX11_takesApart 64 = .ok (.iadd, 1) by decide +kernel)))
    (ok_node
    (ok_leaf (ok_iload_n (show decode cX11_takesApart 65 = .ok (.iload_n 3, 1) by decide +kernel) rfl))
    (ok_leaf (ok_iconst (show decode cX11_takesApart 66 = .ok (.iconst 1, 1) by decide +kernel) (by decide +kernel)))))
    (ok_node
    (ok_leaf (ok_iadd (show decode cX11_takesApart 67 = .ok (.iadd, 1) by decide +kernel)))
    (ok_node
    (ok_leaf (ok_callV (C := RX11) (T := TX11) (N := 31) (Mc := M_X11_comesIn) (show decode cX11_takesApart 68 = .ok (.invokevirtual 197, 3) by decide +kernel) rfl (by decide) (by decide +kernel) rfl rfl wd_684 wd_685 wd_686 wd_558 wd_687 ⟨by decide +kernel, by decide +kernel, by decide +kernel⟩ (by decide)))
    (ok_leaf (ok_return (show decode cX11_takesApart 71 = .ok (.return_, 1) by decide +kernel) rfl)))))))
