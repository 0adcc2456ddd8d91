set_option maxRecDepth 20000 in
set_option maxHeartbeats 4000000 in
theorem ok_X11_laysPairs {sc : List Int32} : ∀ pc, pOk mtOf 189 M_X11_laysPairs false sc pc (cd_X11_laysPairs pc) := by
  unfold cd_X11_laysPairs
  exact ok_node
    (ok_node
    (ok_node
    (ok_node
    (ok_node
    (ok_leaf (ok_aload_n (show decode cX11_laysPairs 0 = .ok (.aload_n 0, 1) by decide +kernel) rfl))
    (ok_node
    (ok_leaf (ok_iconst (show decode cX11_laysPairs 1 = .ok (.iconst 0, 1) by decide +kernel) (by decide +kernel)))
    (ok_leaf (ok_putI (show decode cX11_laysPairs 2 = .ok (.putfield 188, 3) by decide +kernel) (Or.inl (fd_X11 (by decide) wd_675 rfl rfl)) rfl))))
    (ok_node
    (ok_node
    (ok_leaf (ok_iconst (show decode cX11_laysPairs 5 = .ok (.iconst 0, 1) by decide +kernel) (by decide +kernel)))
    (ok_leaf (ok_istore_n (show decode cX11_laysPairs 6 = .ok (.istore_n 1, 1) by decide +kernel) rfl)))
    (ok_node
    (ok_leaf (ok_iload_n (show decode cX11_laysPairs 7 = .ok (.iload_n 1, 1) by decide +kernel) rfl))
    (ok_leaf (ok_aload_n (show decode cX11_laysPairs 8 = .ok (.aload_n 0, 1) by decide +kernel) rfl)))))
    (ok_node
    (ok_node
    (ok_node
    (ok_leaf (ok_getfield (show decode cX11_laysPairs 9 = .ok (.getfield 7, 3) by decide +kernel) (Or.inr (fdF_X11 (by decide) wd_536 rfl rfl))))
    (ok_leaf (ok_iconst (show decode cX11_laysPairs 12 = .ok (.iconst 0, 1) by decide +kernel) (by decide +kernel))))
    (ok_node
    (ok_leaf (ok_iaload (show decode cX11_laysPairs 13 = .ok (.iaload, 1) by decide +kernel)))
    (ok_leaf (ok_icmp_ge (show decode cX11_laysPairs 14 = .ok (.if_icmp .ge 29, 3) by decide +kernel) (by decide +kernel)))))
    (ok_node
    (ok_node
    (ok_leaf (ok_aload_n (show decode cX11_laysPairs 17 = .ok (.aload_n 0, 1) by decide +kernel) rfl))
    (ok_leaf (ok_aload_n (show decode cX11_laysPairs 18 = .ok (.aload_n 0, 1) by decide +kernel) rfl)))
    (ok_node
    (ok_leaf (ok_getfield (show decode cX11_laysPairs 19 = .ok (.getfield 188, 3) by decide +kernel) (Or.inl (fd_X11 (by decide) wd_675 rfl rfl))))
    (ok_leaf (ok_aload_n (show decode cX11_laysPairs 22 = .ok (.aload_n 0, 1) by decide +kernel) rfl))))))
    (ok_node
    (ok_node
    (ok_node
    (ok_node
    (ok_leaf (ok_iload_n (show decode cX11_laysPairs 23 = .ok (.iload_n 1, 1) by decide +kernel) rfl))
    (ok_leaf (ok_iconst (show decode cX11_laysPairs 24 = .ok (.iconst 0, 1) by decide +kernel) (by decide +kernel))))
    (ok_node
    (ok_leaf (ok_callV (C := RX11) (T := TX11) (N := 31) (Mc := M_X11_beginOf) (show decode cX11_laysPairs 25 = .ok (.invokevirtual 150, 3) by decide +kernel) rfl (by decide) (by decide +kernel) rfl rfl wd_631 wd_632 wd_633 wd_558 wd_634 ⟨by decide +kernel, by decide +kernel, by decide +kernel⟩ (by decide)))
    (ok_leaf (ok_aload_n (show decode cX11_laysPairs 28 = .ok (.aload_n 0, 1) by decide +kernel) rfl))))
    (ok_node
    (ok_node
    (ok_leaf (ok_iload_n (show decode cX11_laysPairs 29 = .ok (.iload_n 1, 1) by decide +kernel) rfl))
    (ok_leaf (ok_iconst (show decode cX11_laysPairs 30 = .ok (.iconst 1, 1) by decide +kernel) (by decide +kernel))))
    (ok_node
    (ok_leaf (ok_callV (C := RX11) (T := TX11) (N := 31) (Mc := M_X11_beginOf) (show decode cX11_laysPairs 31 = .ok (.invokevirtual 150, 3) by decide +kernel) rfl (by decide) (by decide +kernel) rfl rfl wd_631 wd_632 wd_633 wd_558 wd_634 ⟨by decide +kernel, by decide +kernel, by decide +kernel⟩ (by decide)))
    (ok_leaf (ok_callV (C := RX11) (T := TX11) (N := 31) (Mc := M_X11_comesIn) (show decode cX11_laysPairs 34 = .ok (.invokevirtual 197, 3) by decide +kernel) rfl (by decide) (by decide +kernel) rfl rfl wd_684 wd_685 wd_686 wd_558 wd_687 ⟨by decide +kernel, by decide +kernel, by decide +kernel⟩ (by decide))))))
    (ok_node
    (ok_node
    (ok_node
    (ok_leaf (ok_iinc (show decode cX11_laysPairs 37 = .ok (.iinc 1 1, 3) by decide +kernel) (by decide +kernel)))
    (ok_leaf (ok_goto (show decode cX11_laysPairs 40 = .ok (.goto (-33), 3) by decide +kernel) (by decide +kernel))))
    (ok_node
    (ok_leaf (ok_iconst (show decode cX11_laysPairs 43 = .ok (.iconst 0, 1) by decide +kernel) (by decide +kernel)))
    (ok_leaf (ok_istore_n (show decode cX11_laysPairs 44 = .ok (.istore_n 1, 1) by decide +kernel) rfl))))
    (ok_node
    (ok_node
    (ok_leaf (ok_iload_n (show decode cX11_laysPairs 45 = .ok (.iload_n 1, 1) by decide +kernel) rfl))
    (ok_leaf (ok_aload_n (show decode cX11_laysPairs 46 = .ok (.aload_n 0, 1) by decide +kernel) rfl)))
    (ok_node
    (ok_leaf (ok_getfield (show decode cX11_laysPairs 47 = .ok (.getfield 188, 3) by decide +kernel) (Or.inl (fd_X11 (by decide) wd_675 rfl rfl))))
    (ok_leaf (ok_icmp_ge (show decode cX11_laysPairs 50 = .ok (.if_icmp .ge 59, 3) by decide +kernel) (by decide +kernel))))))))
    (ok_node
    (ok_node
    (ok_node
    (ok_node
    (ok_leaf (ok_aload_n (show decode cX11_laysPairs 53 = .ok (.aload_n 0, 1) by decide +kernel) rfl))
    (ok_node
    (ok_leaf (ok_getfield (show decode cX11_laysPairs 54 = .ok (.getfield 7, 3) by decide +kernel) (Or.inr (fdF_X11 (by decide) wd_536 rfl rfl))))
    (ok_leaf (ok_aload_n (show decode cX11_laysPairs 57 = .ok (.aload_n 0, 1) by decide +kernel) rfl))))
    (ok_node
    (ok_node
    (ok_leaf (ok_getfield (show decode cX11_laysPairs 58 = .ok (.getfield 37, 3) by decide +kernel) (Or.inr (fdF_X11 (by decide) wd_545 rfl rfl))))
    (ok_leaf (ok_iload_n (show decode cX11_laysPairs 61 = .ok (.iload_n 1, 1) by decide +kernel) rfl)))
    (ok_node
    (ok_leaf (ok_iaload (show decode cX11_laysPairs 62 = .ok (.iaload, 1) by decide +kernel)))
    (ok_leaf (ok_iaload (show decode cX11_laysPairs 63 = .ok (.iaload, 1) by decide +kernel))))))
    (ok_node
    (ok_node
    (ok_node
    (ok_leaf (ok_aload_n (show decode cX11_laysPairs 64 = .ok (.aload_n 0, 1) by decide +kernel) rfl))
    (ok_leaf (ok_getfield (show decode cX11_laysPairs 65 = .ok (.getfield 7, 3) by decide +kernel) (Or.inr (fdF_X11 (by decide) wd_536 rfl rfl)))))
    (ok_node
    (ok_leaf (ok_aload_n (show decode cX11_laysPairs 68 = .ok (.aload_n 0, 1) by decide +kernel) rfl))
    (ok_leaf (ok_getfield (show decode cX11_laysPairs 69 = .ok (.getfield 40, 3) by decide +kernel) (Or.inr (fdF_X11 (by decide) wd_546 rfl rfl))))))
    (ok_node
    (ok_node
    (ok_leaf (ok_iload_n (show decode cX11_laysPairs 72 = .ok (.iload_n 1, 1) by decide +kernel) rfl))
    (ok_leaf (ok_iaload (show decode cX11_laysPairs 73 = .ok (.iaload, 1) by decide +kernel))))
    (ok_node
    (ok_leaf (ok_iaload (show decode cX11_laysPairs 74 = .ok (.iaload, 1) by decide +kernel)))
    (ok_leaf (ok_icmp_ne (show decode cX11_laysPairs 75 = .ok (.if_icmp .ne 28, 3) by decide +kernel) (by decide +kernel)))))))
    (ok_node
    (ok_node
    (ok_node
    (ok_node
    (ok_leaf (ok_aload_n (show decode cX11_laysPairs 78 = .ok (.aload_n 0, 1) by decide +kernel) rfl))
    (ok_leaf (ok_getfield (show decode cX11_laysPairs 79 = .ok (.getfield 7, 3) by decide +kernel) (Or.inr (fdF_X11 (by decide) wd_536 rfl rfl)))))
    (ok_node
    (ok_leaf (ok_aload_n (show decode cX11_laysPairs 82 = .ok (.aload_n 0, 1) by decide +kernel) rfl))
    (ok_leaf (ok_getfield (show decode cX11_laysPairs 83 = .ok (.getfield 37, 3) by decide +kernel) (Or.inr (fdF_X11 (by decide) wd_545 rfl rfl))))))
    (ok_node
    (ok_node
    (ok_leaf (ok_iload_n (show decode cX11_laysPairs 86 = .ok (.iload_n 1, 1) by decide +kernel) rfl))
    (ok_leaf (ok_iaload (show decode cX11_laysPairs 87 = .ok (.iaload, 1) by decide +kernel))))
    (ok_node
    (ok_leaf (ok_iaload (show decode cX11_laysPairs 88 = .ok (.iaload, 1) by decide +kernel)))
    (ok_leaf (ok_callS (Mc := M_X11_isFlex) (show decode cX11_laysPairs 89 = .ok (.invokestatic 85, 3) by decide +kernel) rfl (by decide) (by decide +kernel) wd_569 wd_570 wd_558 wd_571 ⟨by decide +kernel, by decide +kernel, by decide +kernel⟩ (by decide))))))
    (ok_node
    (ok_node
    (ok_node
    (ok_leaf (ok_if_ne (show decode cX11_laysPairs 92 = .ok (.ifCond .ne 11, 3) by decide +kernel) (by decide +kernel)))
    (ok_leaf (ok_aload_n (show decode cX11_laysPairs 95 = .ok (.aload_n 0, 1) by decide +kernel) rfl)))
    (ok_node
    (ok_leaf (ok_iload_n (show decode cX11_laysPairs 96 = .ok (.iload_n 1, 1) by decide +kernel) rfl))
    (ok_leaf (ok_callV (C := RX11) (T := TX11) (N := 31) (Mc := M_X11_takesApart) (show decode cX11_laysPairs 97 = .ok (.invokevirtual 201, 3) by decide +kernel) rfl (by decide) (by decide +kernel) rfl rfl wd_688 wd_689 wd_690 wd_558 wd_691 ⟨by decide +kernel, by decide +kernel, by decide +kernel⟩ (by decide)))))
    (ok_node
    (ok_node
    (ok_leaf (ok_goto (show decode cX11_laysPairs 100 = .ok (.goto (-55), 3) by decide +kernel) (by decide +kernel)))
    (ok_leaf (ok_iinc (show decode cX11_laysPairs 103 = .ok (.iinc 1 1, 3) by decide +kernel) (by decide +kernel))))
    (ok_node
    (ok_leaf (ok_goto (show decode cX11_laysPairs 106 = .ok (.goto (-61), 3) by decide +kernel) (by decide +kernel)))
    (ok_leaf (ok_return (show decode cX11_laysPairs 109 = .ok (.return_, 1) by decide +kernel) rfl)))))))
set_option maxRecDepth 20000 in
set_option maxHeartbeats 4000000 in
theorem ok_X11_kindOf {sc : List Int32} : ∀ pc, pOk mtOf 189 M_X11_kindOf false sc pc (cd_X11_kindOf pc) := by
  unfold cd_X11_kindOf
  exact ok_node
    (ok_node
    (ok_node
    (ok_node
    (ok_leaf (ok_aload_n (show decode cX11_kindOf 0 = .ok (.aload_n 0, 1) by decide +kernel) rfl))
    (ok_node
    (ok_leaf (ok_getfield (show decode cX11_kindOf 1 = .ok (.getfield 7, 3) by decide +kernel) (Or.inr (fdF_X11 (by decide) wd_536 rfl rfl))))
    (ok_leaf (ok_aload_n (show decode cX11_kindOf 4 = .ok (.aload_n 0, 1) by decide +kernel) rfl))))
    (ok_node
    (ok_node
    (ok_leaf (ok_getfield (show decode cX11_kindOf 5 = .ok (.getfield 37, 3) by decide +kernel) (Or.inr (fdF_X11 (by decide) wd_545 rfl rfl))))
    (ok_leaf (ok_iload_n (show decode cX11_kindOf 8 = .ok (.iload_n 1, 1) by decide +kernel) rfl)))
    (ok_node
    (ok_leaf (ok_iaload (show decode cX11_kindOf 9 = .ok (.iaload, 1) by decide +kernel)))
    (ok_leaf (ok_iaload (show decode cX11_kindOf 10 = .ok (.iaload, 1) by decide +kernel))))))
    (ok_node
    (ok_node
    (ok_node
    (ok_leaf (ok_callS (Mc := M_X11_isFlex) (show decode cX11_kindOf 11 = .ok (.invokestatic 85, 3) by decide +kernel) rfl (by decide) (by decide +kernel) wd_569 wd_570 wd_558 wd_571 ⟨by decide +kernel, by decide +kernel, by decide +kernel⟩ (by decide)))
    (ok_leaf (ok_if_eq (show decode cX11_kindOf 14 = .ok (.ifCond .eq 7, 3) by decide +kernel) (by decide +kernel))))
    (ok_node
    (ok_leaf (ok_iconst (show decode cX11_kindOf 17 = .ok (.iconst 1, 1) by decide +kernel) (by decide +kernel)))
    (ok_leaf (ok_goto (show decode cX11_kindOf 18 = .ok (.goto 4, 3) by decide +kernel) (by decide +kernel)))))
    (ok_node
    (ok_node
    (ok_leaf (ok_iconst (show decode cX11_kindOf 21 = .ok (.iconst 0, 1) by decide +kernel) (by decide +kernel)))
    (ok_leaf (ok_aload_n (show decode cX11_kindOf 22 = .ok (.aload_n 0, 1) by decide +kernel) rfl)))
    (ok_node
    (ok_leaf (ok_getfield (show decode cX11_kindOf 23 = .ok (.getfield 7, 3) by decide +kernel) (Or.inr (fdF_X11 (by decide) wd_536 rfl rfl))))
    (ok_leaf (ok_aload_n (show decode cX11_kindOf 26 = .ok (.aload_n 0, 1) by decide +kernel) rfl))))))
    (ok_node
    (ok_node
    (ok_node
    (ok_leaf (ok_getfield (show decode cX11_kindOf 27 = .ok (.getfield 40, 3) by decide +kernel) (Or.inr (fdF_X11 (by decide) wd_546 rfl rfl))))
    (ok_node
    (ok_leaf (ok_iload_n (show decode cX11_kindOf 30 = .ok (.iload_n 1, 1) by decide +kernel) rfl))
    (ok_leaf (ok_iaload (show decode cX11_kindOf 31 = .ok (.iaload, 1) by decide +kernel)))))
    (ok_node
    (ok_node
    (ok_leaf (ok_iaload (show decode cX11_kindOf 32 = .ok (.iaload, 1) by decide +kernel)))
    (ok_leaf (ok_callS (Mc := M_X11_isFlex) (show decode cX11_kindOf 33 = .ok (.invokestatic 85, 3) by decide +kernel) rfl (by decide) (by decide +kernel) wd_569 wd_570 wd_558 wd_571 ⟨by decide +kernel, by decide +kernel, by decide +kernel⟩ (by decide))))
    (ok_node
    (ok_leaf (ok_if_eq (show decode cX11_kindOf 36 = .ok (.ifCond .eq 7, 3) by decide +kernel) (by decide +kernel)))
    (ok_leaf (ok_iconst (show decode cX11_kindOf 39 = .ok (.iconst 1, 1) by decide +kernel) (by decide +kernel))))))
    (ok_node
    (ok_node
    (ok_node
    (ok_leaf (ok_goto (show decode cX11_kindOf 40 = .ok (.goto 4, 3) by decide +kernel) (by decide +kernel)))
    (ok_leaf (ok_iconst (show decode cX11_kindOf 43 = .ok (.iconst 0, 1) by decide +kernel) (by decide +kernel))))
    (ok_node
    (ok_leaf (ok_iadd (show decode cX11_kindOf 44 = .ok (.iadd, 1) by decide +kernel)))
    (ok_leaf (ok_istore_n (show decode cX11_kindOf 45 = .ok (.istore_n 2, 1) by decide +kernel) rfl))))
    (ok_node
    (ok_node
    (ok_leaf (ok_iload_n (show decode cX11_kindOf 46 = .ok (.iload_n 2, 1) by decide +kernel) rfl))
    (ok_leaf (ok_iconst (show decode cX11_kindOf 47 = .ok (.iconst 1, 1) by decide +kernel) (by decide +kernel))))
    (ok_node
    (ok_leaf (ok_iadd (show decode cX11_kindOf 48 = .ok (.iadd, 1) by decide +kernel)))
    (ok_leaf (ok_ireturn (show decode cX11_kindOf 49 = .ok (.ireturn, 1) by decide +kernel) rfl))))))
set_option maxRecDepth 20000 in
set_option maxHeartbeats 4000000 in
theorem ok_X11_tellPairs {sc : List Int32} : ∀ pc, pOk mtOf 189 M_X11_tellPairs false sc pc (cd_X11_tellPairs pc) := by
  unfold cd_X11_tellPairs
  exact ok_node
    (ok_node
    (ok_node
    (ok_node
    (ok_leaf (ok_aload_n (show decode cX11_tellPairs 0 = .ok (.aload_n 0, 1) by decide +kernel) rfl))
    (ok_node
    (ok_leaf (ok_callV (C := RX11) (T := TX11) (N := 31) (Mc := M_X11_laysPairs) (show decode cX11_tellPairs 1 = .ok (.invokevirtual 204, 3) by decide +kernel) rfl (by decide) (by decide +kernel) rfl rfl wd_692 wd_693 wd_694 wd_558 wd_695 ⟨by decide +kernel, by decide +kernel, by decide +kernel⟩ (by decide)))
    (ok_leaf (ok_iconst (show decode cX11_tellPairs 4 = .ok (.iconst 0, 1) by decide +kernel) (by decide +kernel)))))
    (ok_node
    (ok_leaf (ok_istore_n (show decode cX11_tellPairs 5 = .ok (.istore_n 2, 1) by decide +kernel) rfl))
    (ok_node
    (ok_leaf (ok_iconst (show decode cX11_tellPairs 6 = .ok (.iconst 0, 1) by decide +kernel) (by decide +kernel)))
    (ok_leaf (ok_istore_n (show decode cX11_tellPairs 7 = .ok (.istore_n 3, 1) by decide +kernel) rfl)))))
    (ok_node
    (ok_node
    (ok_leaf (ok_iload_n (show decode cX11_tellPairs 8 = .ok (.iload_n 3, 1) by decide +kernel) rfl))
    (ok_node
    (ok_leaf (ok_aload_n (show decode cX11_tellPairs 9 = .ok (.aload_n 0, 1) by decide +kernel) rfl))
    (ok_leaf (ok_getfield (show decode cX11_tellPairs 10 = .ok (.getfield 188, 3) by decide +kernel) (Or.inl (fd_X11 (by decide) wd_675 rfl rfl))))))
    (ok_node
    (ok_node
    (ok_leaf (ok_icmp_ge (show decode cX11_tellPairs 13 = .ok (.if_icmp .ge 30, 3) by decide +kernel) (by decide +kernel)))
    (ok_leaf (ok_iload_n (show decode cX11_tellPairs 16 = .ok (.iload_n 2, 1) by decide +kernel) rfl)))
    (ok_node
    (ok_leaf (ok_iload_n (show decode cX11_tellPairs 17 = .ok (.iload_n 1, 1) by decide +kernel) rfl))
    (ok_leaf (ok_if_eq (show decode cX11_tellPairs 18 = .ok (.ifCond .eq 12, 3) by decide +kernel) (by decide +kernel)))))))
    (ok_node
    (ok_node
    (ok_node
    (ok_leaf (ok_aload_n (show decode cX11_tellPairs 21 = .ok (.aload_n 0, 1) by decide +kernel) rfl))
    (ok_node
    (ok_leaf (ok_iload_n (show decode cX11_tellPairs 22 = .ok (.iload_n 3, 1) by decide +kernel) rfl))
    (ok_leaf (ok_callV (C := RX11) (T := TX11) (N := 31) (Mc := M_X11_kindOf) (show decode cX11_tellPairs 23 = .ok (.invokevirtual 207, 3) by decide +kernel) rfl (by decide) (by decide +kernel) rfl rfl wd_696 wd_697 wd_698 wd_558 wd_699 ⟨by decide +kernel, by decide +kernel, by decide +kernel⟩ (by decide)))))
    (ok_node
    (ok_node
    (ok_leaf (ok_iload_n (show decode cX11_tellPairs 26 = .ok (.iload_n 1, 1) by decide +kernel) rfl))
    (ok_leaf (ok_icmp_ne (show decode cX11_tellPairs 27 = .ok (.if_icmp .ne 7, 3) by decide +kernel) (by decide +kernel))))
    (ok_node
    (ok_leaf (ok_iconst (show decode cX11_tellPairs 30 = .ok (.iconst 1, 1) by decide +kernel) (by decide +kernel)))
    (ok_leaf (ok_goto (show decode cX11_tellPairs 31 = .ok (.goto 4, 3) by decide +kernel) (by decide +kernel))))))
    (ok_node
    (ok_node
    (ok_leaf (ok_iconst (show decode cX11_tellPairs 34 = .ok (.iconst 0, 1) by decide +kernel) (by decide +kernel)))
    (ok_node
    (ok_leaf (ok_iadd (show decode cX11_tellPairs 35 = .ok (.iadd, 1) by decide +kernel)))
    (ok_leaf (ok_istore_n (show decode cX11_tellPairs 36 = .ok (.istore_n 2, 1) by decide +kernel) rfl))))
    (ok_node
    (ok_node
    (ok_leaf (ok_iinc (show decode cX11_tellPairs 37 = .ok (.iinc 3 1, 3) by decide +kernel) (by decide +kernel)))
    (ok_leaf (ok_goto (show decode cX11_tellPairs 40 = .ok (.goto (-32), 3) by decide +kernel) (by decide +kernel))))
    (ok_node
    (ok_leaf (ok_iload_n (show decode cX11_tellPairs 43 = .ok (.iload_n 2, 1) by decide +kernel) rfl))
    (ok_leaf (ok_ireturn (show decode cX11_tellPairs 44 = .ok (.ireturn, 1) by decide +kernel) rfl))))))
set_option maxRecDepth 20000 in
set_option maxHeartbeats 4000000 in
theorem ok_X11_pairs {sc : List Int32} : ∀ pc, pOk mtOf 189 M_X11_pairs false sc pc (cd_X11_pairs pc) := by
  unfold cd_X11_pairs
  exact ok_node
    (ok_node
    (ok_node
    (ok_leaf (ok_iload_n (show decode cX11_pairs 0 = .ok (.iload_n 1, 1) by decide +kernel) rfl))
    (ok_node
    (ok_leaf (ok_iconst (show decode cX11_pairs 1 = .ok (.iconst 0, 1) by decide +kernel) (by decide +kernel)))
    (ok_leaf (ok_iconst (show decode cX11_pairs 2 = .ok (.iconst 3, 1) by decide +kernel) (by decide +kernel)))))
    (ok_node
    (ok_leaf (ok_callS (Mc := M_X11_within) (show decode cX11_pairs 3 = .ok (.invokestatic 82, 3) by decide +kernel) rfl (by decide) (by decide +kernel) wd_566 wd_567 wd_558 wd_568 ⟨by decide +kernel, by decide +kernel, by decide +kernel⟩ (by decide)))
    (ok_node
    (ok_leaf (ok_if_eq (show decode cX11_pairs 6 = .ok (.ifCond .eq 11, 3) by decide +kernel) (by decide +kernel)))
    (ok_leaf (ok_aload_n (show decode cX11_pairs 9 = .ok (.aload_n 0, 1) by decide +kernel) rfl)))))
    (ok_node
    (ok_node
    (ok_leaf (ok_iload_n (show decode cX11_pairs 10 = .ok (.iload_n 1, 1) by decide +kernel) rfl))
    (ok_node
    (ok_leaf (ok_callV (C := RX11) (T := TX11) (N := 31) (Mc := M_X11_tellPairs) (show decode cX11_pairs 11 = .ok (.invokevirtual 210, 3) by decide +kernel) rfl (by decide) (by decide +kernel) rfl rfl wd_700 wd_701 wd_702 wd_558 wd_703 ⟨by decide +kernel, by decide +kernel, by decide +kernel⟩ (by decide)))
    (ok_leaf (ok_goto (show decode cX11_pairs 14 = .ok (.goto 7, 3) by decide +kernel) (by decide +kernel)))))
    (ok_node
    (ok_leaf (ok_aload_n (show decode cX11_pairs 17 = .ok (.aload_n 0, 1) by decide +kernel) rfl))
    (ok_node
    (ok_leaf (ok_callV (C := RX11) (T := TX11) (N := 31) (Mc := M_X11_bad) (show decode cX11_pairs 18 = .ok (.invokevirtual 101, 3) by decide +kernel) rfl (by decide) (by decide +kernel) rfl rfl wd_580 wd_581 wd_582 wd_558 wd_583 ⟨by decide +kernel, by decide +kernel, by decide +kernel⟩ (by decide)))
    (ok_leaf (ok_ireturn (show decode cX11_pairs 21 = .ok (.ireturn, 1) by decide +kernel) rfl)))))
set_option maxRecDepth 20000 in
set_option maxHeartbeats 4000000 in
theorem ok_X11_waysOf {sc : List Int32} : ∀ pc, pOk mtOf 189 M_X11_waysOf false sc pc (cd_X11_waysOf pc) := by
  unfold cd_X11_waysOf
  exact ok_node
    (ok_node
    (ok_node
    (ok_node
    (ok_node
    (ok_leaf (ok_aload_n (show decode cX11_waysOf 0 = .ok (.aload_n 0, 1) by decide +kernel) rfl))
    (ok_leaf (ok_getfield (show decode cX11_waysOf 1 = .ok (.getfield 7, 3) by decide +kernel) (Or.inr (fdF_X11 (by decide) wd_536 rfl rfl)))))
    (ok_node
    (ok_leaf (ok_aload_n (show decode cX11_waysOf 4 = .ok (.aload_n 0, 1) by decide +kernel) rfl))
    (ok_leaf (ok_getfield (show decode cX11_waysOf 5 = .ok (.getfield 37, 3) by decide +kernel) (Or.inr (fdF_X11 (by decide) wd_545 rfl rfl))))))
    (ok_node
    (ok_node
    (ok_leaf (ok_iload_n (show decode cX11_waysOf 8 = .ok (.iload_n 1, 1) by decide +kernel) rfl))
    (ok_leaf (ok_iaload (show decode cX11_waysOf 9 = .ok (.iaload, 1) by decide +kernel))))
    (ok_node
    (ok_leaf (ok_iaload (show decode cX11_waysOf 10 = .ok (.iaload, 1) by decide +kernel)))
    (ok_node
    (ok_leaf (ok_callS (Mc := M_X11_isFlex) (show decode cX11_waysOf 11 = .ok (.invokestatic 85, 3) by decide +kernel) rfl (by decide) (by decide +kernel) wd_569 wd_570 wd_558 wd_571 ⟨by decide +kernel, by decide +kernel, by decide +kernel⟩ (by decide)))
    (ok_leaf (ok_if_eq (show decode cX11_waysOf 14 = .ok (.ifCond .eq 17, 3) by decide +kernel) (by decide +kernel)))))))
    (ok_node
    (ok_node
    (ok_node
    (ok_leaf (ok_aload_n (show decode cX11_waysOf 17 = .ok (.aload_n 0, 1) by decide +kernel) rfl))
    (ok_leaf (ok_getfield (show decode cX11_waysOf 18 = .ok (.getfield 7, 3) by decide +kernel) (Or.inr (fdF_X11 (by decide) wd_536 rfl rfl)))))
    (ok_node
    (ok_leaf (ok_aload_n (show decode cX11_waysOf 21 = .ok (.aload_n 0, 1) by decide +kernel) rfl))
    (ok_leaf (ok_getfield (show decode cX11_waysOf 22 = .ok (.getfield 37, 3) by decide +kernel) (Or.inr (fdF_X11 (by decide) wd_545 rfl rfl))))))
    (ok_node
    (ok_node
    (ok_leaf (ok_iload_n (show decode cX11_waysOf 25 = .ok (.iload_n 1, 1) by decide +kernel) rfl))
    (ok_leaf (ok_iaload (show decode cX11_waysOf 26 = .ok (.iaload, 1) by decide +kernel))))
    (ok_node
    (ok_leaf (ok_iaload (show decode cX11_waysOf 27 = .ok (.iaload, 1) by decide +kernel)))
    (ok_node
    (ok_leaf (ok_goto (show decode cX11_waysOf 28 = .ok (.goto 14, 3) by decide +kernel) (by decide +kernel)))
    (ok_leaf (ok_aload_n (show decode cX11_waysOf 31 = .ok (.aload_n 0, 1) by decide +kernel) rfl)))))))
    (ok_node
    (ok_node
    (ok_node
    (ok_node
    (ok_leaf (ok_getfield (show decode cX11_waysOf 32 = .ok (.getfield 7, 3) by decide +kernel) (Or.inr (fdF_X11 (by decide) wd_536 rfl rfl))))
    (ok_leaf (ok_aload_n (show decode cX11_waysOf 35 = .ok (.aload_n 0, 1) by decide +kernel) rfl)))
    (ok_node
    (ok_leaf (ok_getfield (show decode cX11_waysOf 36 = .ok (.getfield 40, 3) by decide +kernel) (Or.inr (fdF_X11 (by decide) wd_546 rfl rfl))))
    (ok_leaf (ok_iload_n (show decode cX11_waysOf 39 = .ok (.iload_n 1, 1) by decide +kernel) rfl))))
    (ok_node
    (ok_node
    (ok_leaf (ok_iaload (show decode cX11_waysOf 40 = .ok (.iaload, 1) by decide +kernel)))
    (ok_leaf (ok_iaload (show decode cX11_waysOf 41 = .ok (.iaload, 1) by decide +kernel))))
    (ok_node
    (ok_leaf (ok_istore_n (show decode cX11_waysOf 42 = .ok (.istore_n 2, 1) by decide +kernel) rfl))
    (ok_node
    (ok_leaf (ok_aload_n (show decode cX11_waysOf 43 = .ok (.aload_n 0, 1) by decide +kernel) rfl))
    (ok_leaf (ok_iload_n (show decode cX11_waysOf 44 = .ok (.iload_n 1, 1) by decide +kernel) rfl))))))
    (ok_node
    (ok_node
    (ok_node
    (ok_leaf (ok_callV (C := RX11) (T := TX11) (N := 31) (Mc := M_X11_kindOf) (show decode cX11_waysOf 45 = .ok (.invokevirtual 207, 3) by decide +kernel) rfl (by decide) (by decide +kernel) rfl rfl wd_696 wd_697 wd_698 wd_558 wd_699 ⟨by decide +kernel, by decide +kernel, by decide +kernel⟩ (by decide)))
    (ok_leaf (ok_iconst (show decode cX11_waysOf 48 = .ok (.iconst 2, 1) by decide +kernel) (by decide +kernel))))
    (ok_node
    (ok_leaf (ok_icmp_ne (show decode cX11_waysOf 49 = .ok (.if_icmp .ne 12, 3) by decide +kernel) (by decide +kernel)))
    (ok_node
    (ok_leaf (ok_iconst (show decode cX11_waysOf 52 = .ok (.iconst 1, 1) by decide +kernel) (by decide +kernel)))
    (ok_leaf (ok_iload_n (show decode cX11_waysOf 53 = .ok (.iload_n 2, 1) by decide +kernel) rfl)))))
    (ok_node
    (ok_node
    (ok_leaf (ok_callS (Mc := M_X11_partsOf) (show decode cX11_waysOf 54 = .ok (.invokestatic 89, 3) by decide +kernel) rfl (by decide) (by decide +kernel) wd_572 wd_573 wd_558 wd_574 ⟨by decide +kernel, by decide +kernel, by decide +kernel⟩ (by decide)))
    (ok_leaf (ok_iadd (show decode cX11_waysOf 57 = .ok (.iadd, 1) by decide +kernel))))
    (ok_node
    (ok_leaf (ok_goto (show decode cX11_waysOf 58 = .ok (.goto 4, 3) by decide +kernel) (by decide +kernel)))
    (ok_node
    (ok_leaf (ok_iconst (show decode cX11_waysOf 61 = .ok (.iconst 0, 1) by decide +kernel) (by decide +kernel)))
    (ok_leaf (ok_ireturn (show decode cX11_waysOf 62 = .ok (.ireturn, 1) by decide +kernel) rfl)))))))
set_option maxRecDepth 20000 in
set_option maxHeartbeats 4000000 in
theorem ok_X11_pair {sc : List Int32} : ∀ pc, pOk mtOf 189 M_X11_pair false sc pc (cd_X11_pair pc) := by
  unfold cd_X11_pair
  exact ok_node
    (ok_node
    (ok_node
    (ok_node
    (ok_node
    (ok_node
    (ok_leaf (ok_iload_n (show decode cX11_pair 0 = .ok (.iload_n 1, 1) by decide +kernel) rfl))
    (ok_leaf (ok_if_lt (show decode cX11_pair 1 = .ok (.ifCond .lt 12, 3) by decide +kernel) (by decide +kernel))))
    (ok_node
    (ok_leaf (ok_iload_n (show decode cX11_pair 4 = .ok (.iload_n 2, 1) by decide +kernel) rfl))
    (ok_leaf (ok_iconst (show decode cX11_pair 5 = .ok (.iconst 0, 1) by decide +kernel) (by decide +kernel)))))
    (ok_node
    (ok_node
    (ok_leaf (ok_iconst (show decode cX11_pair 6 = .ok (.iconst 5, 1) by decide +kernel) (by decide +kernel)))
    (ok_leaf (ok_callS (Mc := M_X11_within) (show decode cX11_pair 7 = .ok (.invokestatic 82, 3) by decide +kernel) rfl (by decide) (by decide +kernel) wd_566 wd_567 wd_558 wd_568 ⟨by decide +kernel, by decide +kernel, by decide +kernel⟩ (by decide))))
    (ok_node
    (ok_leaf (ok_if_ne (show decode cX11_pair 10 = .ok (.ifCond .ne 8, 3) by decide +kernel) (by decide +kernel)))
    (ok_leaf (ok_aload_n (show decode cX11_pair 13 = .ok (.aload_n 0, 1) by decide +kernel) rfl)))))
    (ok_node
    (ok_node
    (ok_node
    (ok_leaf (ok_callV (C := RX11) (T := TX11) (N := 31) (Mc := M_X11_bad) (show decode cX11_pair 14 = .ok (.invokevirtual 101, 3) by decide +kernel) rfl (by decide) (by decide +kernel) rfl rfl wd_580 wd_581 wd_582 wd_558 wd_583 ⟨by decide +kernel, by decide +kernel, by decide +kernel⟩ (by decide)))
    (ok_leaf (ok_ireturn (show decode cX11_pair 17 = .ok (.ireturn, 1) by decide +kernel) rfl)))
    (ok_node
    (ok_leaf (ok_aload_n (show decode cX11_pair 18 = .ok (.aload_n 0, 1) by decide +kernel) rfl))
    (ok_leaf (ok_callV (C := RX11) (T := TX11) (N := 31) (Mc := M_X11_laysPairs) (show decode cX11_pair 19 = .ok (.invokevirtual 204, 3) by decide +kernel) rfl (by decide) (by decide +kernel) rfl rfl wd_692 wd_693 wd_694 wd_558 wd_695 ⟨by decide +kernel, by decide +kernel, by decide +kernel⟩ (by decide)))))
    (ok_node
    (ok_node
    (ok_leaf (ok_iload_n (show decode cX11_pair 22 = .ok (.iload_n 1, 1) by decide +kernel) rfl))
    (ok_leaf (ok_aload_n (show decode cX11_pair 23 = .ok (.aload_n 0, 1) by decide +kernel) rfl)))
    (ok_node
    (ok_leaf (ok_getfield (show decode cX11_pair 24 = .ok (.getfield 188, 3) by decide +kernel) (Or.inl (fd_X11 (by decide) wd_675 rfl rfl))))
    (ok_node
    (ok_leaf (ok_icmp_lt (show decode cX11_pair 27 = .ok (.if_icmp .lt 6, 3) by decide +kernel) (by decide +kernel)))
    (ok_leaf (ok_bipush (show decode cX11_pair 30 = .ok (.bipush (-5), 2) by decide +kernel) (by decide +kernel))))))))
    (ok_node
    (ok_node
    (ok_node
    (ok_node
    (ok_leaf (ok_ireturn (show decode cX11_pair 32 = .ok (.ireturn, 1) by decide +kernel) rfl))
    (ok_leaf (ok_iload_n (show decode cX11_pair 33 = .ok (.iload_n 2, 1) by decide +kernel) rfl)))
    (ok_node
    (ok_leaf (ok_table (show decode cX11_pair 34 = .ok (.tableswitch 100 0 4 #[34, 46, 58, 76, 94], 34) by decide +kernel) (by decide +kernel) (by decide +kernel) (by decide +kernel) (by decide +kernel)))
    (ok_leaf (ok_aload_n (show decode cX11_pair 68 = .ok (.aload_n 0, 1) by decide +kernel) rfl))))
    (ok_node
    (ok_node
    (ok_leaf (ok_getfield (show decode cX11_pair 69 = .ok (.getfield 7, 3) by decide +kernel) (Or.inr (fdF_X11 (by decide) wd_536 rfl rfl))))
    (ok_leaf (ok_aload_n (show decode cX11_pair 72 = .ok (.aload_n 0, 1) by decide +kernel) rfl)))
    (ok_node
    (ok_leaf (ok_getfield (show decode cX11_pair 73 = .ok (.getfield 37, 3) by decide +kernel) (Or.inr (fdF_X11 (by decide) wd_545 rfl rfl))))
    (ok_leaf (ok_iload_n (show decode cX11_pair 76 = .ok (.iload_n 1, 1) by decide +kernel) rfl)))))
    (ok_node
    (ok_node
    (ok_node
    (ok_leaf (ok_iaload (show decode cX11_pair 77 = .ok (.iaload, 1) by decide +kernel)))
    (ok_leaf (ok_iaload (show decode cX11_pair 78 = .ok (.iaload, 1) by decide +kernel))))
    (ok_node
    (ok_leaf (ok_ireturn (show decode cX11_pair 79 = .ok (.ireturn, 1) by decide +kernel) rfl))
    (ok_leaf (ok_aload_n (show decode cX11_pair 80 = .ok (.aload_n 0, 1) by decide +kernel) rfl))))
    (ok_node
    (ok_node
    (ok_leaf (ok_getfield (show decode cX11_pair 81 = .ok (.getfield 7, 3) by decide +kernel) (Or.inr (fdF_X11 (by decide) wd_536 rfl rfl))))
    (ok_leaf (ok_aload_n (show decode cX11_pair 84 = .ok (.aload_n 0, 1) by decide +kernel) rfl)))
    (ok_node
    (ok_leaf (ok_getfield (show decode cX11_pair 85 = .ok (.getfield 40, 3) by decide +kernel) (Or.inr (fdF_X11 (by decide) wd_546 rfl rfl))))
    (ok_node
    (ok_leaf (ok_iload_n (show decode cX11_pair 88 = .ok (.iload_n 1, 1) by decide +kernel) rfl))
    (ok_leaf (ok_iaload (show decode cX11_pair 89 = .ok (.iaload, 1) by decide +kernel)))))))))
    (ok_node
    (ok_node
    (ok_node
    (ok_node
    (ok_node
    (ok_leaf (ok_iaload (show decode cX11_pair 90 = .ok (.iaload, 1) by decide +kernel)))
    (ok_leaf (ok_ireturn (show decode cX11_pair 91 = .ok (.ireturn, 1) by decide +kernel) rfl)))
    (ok_node
    (ok_leaf (ok_aload_n (show decode cX11_pair 92 = .ok (.aload_n 0, 1) by decide +kernel) rfl))
    (ok_leaf (ok_aload_n (show decode cX11_pair 93 = .ok (.aload_n 0, 1) by decide +kernel) rfl))))
    (ok_node
    (ok_node
    (ok_leaf (ok_getfield (show decode cX11_pair 94 = .ok (.getfield 37, 3) by decide +kernel) (Or.inr (fdF_X11 (by decide) wd_545 rfl rfl))))
    (ok_leaf (ok_iload_n (show decode cX11_pair 97 = .ok (.iload_n 1, 1) by decide +kernel) rfl)))
    (ok_node
    (ok_leaf (ok_iaload (show decode cX11_pair 98 = .ok (.iaload, 1) by decide +kernel)))
    (ok_leaf (ok_callV (C := RX11) (T := TX11) (N := 31) (Mc := M_X11_behind) (show decode cX11_pair 99 = .ok (.invokevirtual 194, 3) by decide +kernel) rfl (by decide) (by decide +kernel) rfl rfl wd_680 wd_681 wd_682 wd_558 wd_683 ⟨by decide +kernel, by decide +kernel, by decide +kernel⟩ (by decide))))))
    (ok_node
    (ok_node
    (ok_node
    (ok_leaf (ok_aload_n (show decode cX11_pair 102 = .ok (.aload_n 0, 1) by decide +kernel) rfl))
    (ok_leaf (ok_getfield (show decode cX11_pair 103 = .ok (.getfield 37, 3) by decide +kernel) (Or.inr (fdF_X11 (by decide) wd_545 rfl rfl)))))
    (ok_node
    (ok_leaf (ok_iload_n (show decode cX11_pair 106 = .ok (.iload_n 1, 1) by decide +kernel) rfl))
    (ok_leaf (ok_iaload (show decode cX11_pair 107 = .ok (.iaload, 1) by decide +kernel)))))
    (ok_node
    (ok_node
    (ok_leaf (ok_isub (show decode cX11_pair 108 = .ok (.isub, 1) by decide +kernel)))
    (ok_leaf (ok_ireturn (show decode cX11_pair 109 = .ok (.ireturn, 1) by decide +kernel) rfl)))
    (ok_node
    (ok_leaf (ok_aload_n (show decode cX11_pair 110 = .ok (.aload_n 0, 1) by decide +kernel) rfl))
    (ok_node
    (ok_leaf (ok_aload_n (show decode cX11_pair 111 = .ok (.aload_n 0, 1) by decide +kernel) rfl))
    (ok_leaf (ok_getfield (show decode cX11_pair 112 = .ok (.getfield 40, 3) by decide +kernel) (Or.inr (fdF_X11 (by decide) wd_546 rfl rfl)))))))))
    (ok_node
    (ok_node
    (ok_node
    (ok_node
    (ok_leaf (ok_iload_n (show decode cX11_pair 115 = .ok (.iload_n 1, 1) by decide +kernel) rfl))
    (ok_leaf (ok_iaload (show decode cX11_pair 116 = .ok (.iaload, 1) by decide +kernel))))
    (ok_node
    (ok_leaf (ok_callV (C := RX11) (T := TX11) (N := 31) (Mc := M_X11_behind) (show decode cX11_pair 117 = .ok (.invokevirtual 194, 3) by decide +kernel) rfl (by decide) (by decide +kernel) rfl rfl wd_680 wd_681 wd_682 wd_558 wd_683 ⟨by decide +kernel, by decide +kernel, by decide +kernel⟩ (by decide)))
    (ok_leaf (ok_aload_n (show decode cX11_pair 120 = .ok (.aload_n 0, 1) by decide +kernel) rfl))))
    (ok_node
    (ok_node
    (ok_leaf (ok_getfield (show decode cX11_pair 121 = .ok (.getfield 40, 3) by decide +kernel) (Or.inr (fdF_X11 (by decide) wd_546 rfl rfl))))
    (ok_leaf (ok_iload_n (show decode cX11_pair 124 = .ok (.iload_n 1, 1) by decide +kernel) rfl)))
    (ok_node
    (ok_leaf (ok_iaload (show decode cX11_pair 125 = .ok (.iaload, 1) by decide +kernel)))
    (ok_leaf (ok_isub (show decode cX11_pair 126 = .ok (.isub, 1) by decide +kernel))))))
    (ok_node
    (ok_node
    (ok_node
    (ok_leaf (ok_ireturn (show decode cX11_pair 127 = .ok (.ireturn, 1) by decide +kernel) rfl))
    (ok_leaf (ok_aload_n (show decode cX11_pair 128 = .ok (.aload_n 0, 1) by decide +kernel) rfl)))
    (ok_node
    (ok_leaf (ok_iload_n (show decode cX11_pair 129 = .ok (.iload_n 1, 1) by decide +kernel) rfl))
    (ok_leaf (ok_callV (C := RX11) (T := TX11) (N := 31) (Mc := M_X11_kindOf) (show decode cX11_pair 130 = .ok (.invokevirtual 207, 3) by decide +kernel) rfl (by decide) (by decide +kernel) rfl rfl wd_696 wd_697 wd_698 wd_558 wd_699 ⟨by decide +kernel, by decide +kernel, by decide +kernel⟩ (by decide)))))
    (ok_node
    (ok_node
    (ok_leaf (ok_ireturn (show decode cX11_pair 133 = .ok (.ireturn, 1) by decide +kernel) rfl))
    (ok_leaf (ok_aload_n (show decode cX11_pair 134 = .ok (.aload_n 0, 1) by decide +kernel) rfl)))
    (ok_node
    (ok_leaf (ok_iload_n (show decode cX11_pair 135 = .ok (.iload_n 1, 1) by decide +kernel) rfl))
    (ok_node
    (ok_leaf (ok_callV (C := RX11) (T := TX11) (N := 31) (Mc := M_X11_waysOf) (show decode cX11_pair 136 = .ok (.invokevirtual 213, 3) by decide +kernel) rfl (by decide) (by decide +kernel) rfl rfl wd_704 wd_705 wd_706 wd_558 wd_707 ⟨by decide +kernel, by decide +kernel, by decide +kernel⟩ (by decide)))
    (ok_leaf (ok_ireturn (show decode cX11_pair 139 = .ok (.ireturn, 1) by decide +kernel) rfl))))))))
set_option maxRecDepth 20000 in
set_option maxHeartbeats 4000000 in
theorem ok_X11_allLetters {sc : List Int32} : ∀ pc, pOk mtOf 189 M_X11_allLetters false sc pc (cd_X11_allLetters pc) := by
  unfold cd_X11_allLetters
  exact ok_node
    (ok_node
    (ok_node
    (ok_node
    (ok_leaf (ok_iconst (show decode cX11_allLetters 0 = .ok (.iconst 0, 1) by decide +kernel) (by decide +kernel)))
    (ok_node
    (ok_leaf (ok_istore_n (show decode cX11_allLetters 1 = .ok (.istore_n 1, 1) by decide +kernel) rfl))
    (ok_leaf (ok_iconst (show decode cX11_allLetters 2 = .ok (.iconst 0, 1) by decide +kernel) (by decide +kernel)))))
    (ok_node
    (ok_leaf (ok_istore_n (show decode cX11_allLetters 3 = .ok (.istore_n 2, 1) by decide +kernel) rfl))
    (ok_node
    (ok_leaf (ok_iload_n (show decode cX11_allLetters 4 = .ok (.iload_n 2, 1) by decide +kernel) rfl))
    (ok_leaf (ok_iconst (show decode cX11_allLetters 5 = .ok (.iconst 2, 1) by decide +kernel) (by decide +kernel))))))
    (ok_node
    (ok_node
    (ok_leaf (ok_aload_n (show decode cX11_allLetters 6 = .ok (.aload_n 0, 1) by decide +kernel) rfl))
    (ok_node
    (ok_leaf (ok_getfield (show decode cX11_allLetters 7 = .ok (.getfield 7, 3) by decide +kernel) (Or.inr (fdF_X11 (by decide) wd_536 rfl rfl))))
    (ok_leaf (ok_iconst (show decode cX11_allLetters 10 = .ok (.iconst 0, 1) by decide +kernel) (by decide +kernel)))))
    (ok_node
    (ok_leaf (ok_iaload (show decode cX11_allLetters 11 = .ok (.iaload, 1) by decide +kernel)))
    (ok_node
    (ok_leaf (ok_imul (show decode cX11_allLetters 12 = .ok (.imul, 1) by decide +kernel)))
    (ok_leaf (ok_icmp_ge (show decode cX11_allLetters 13 = .ok (.if_icmp .ge 20, 3) by decide +kernel) (by decide +kernel)))))))
    (ok_node
    (ok_node
    (ok_node
    (ok_leaf (ok_iload_n (show decode cX11_allLetters 16 = .ok (.iload_n 1, 1) by decide +kernel) rfl))
    (ok_node
    (ok_leaf (ok_aload_n (show decode cX11_allLetters 17 = .ok (.aload_n 0, 1) by decide +kernel) rfl))
    (ok_leaf (ok_getfield (show decode cX11_allLetters 18 = .ok (.getfield 7, 3) by decide +kernel) (Or.inr (fdF_X11 (by decide) wd_536 rfl rfl))))))
    (ok_node
    (ok_leaf (ok_iconst (show decode cX11_allLetters 21 = .ok (.iconst 1, 1) by decide +kernel) (by decide +kernel)))
    (ok_node
    (ok_leaf (ok_iload_n (show decode cX11_allLetters 22 = .ok (.iload_n 2, 1) by decide +kernel) rfl))
    (ok_leaf (ok_iadd (show decode cX11_allLetters 23 = .ok (.iadd, 1) by decide +kernel))))))
    (ok_node
    (ok_node
    (ok_leaf (ok_iaload (show decode cX11_allLetters 24 = .ok (.iaload, 1) by decide +kernel)))
    (ok_node
    (ok_leaf (ok_iadd (show decode cX11_allLetters 25 = .ok (.iadd, 1) by decide +kernel)))
    (ok_leaf (ok_istore_n (show decode cX11_allLetters 26 = .ok (.istore_n 1, 1) by decide +kernel) rfl))))
    (ok_node
    (ok_node
    (ok_leaf (ok_iinc (show decode cX11_allLetters 27 = .ok (.iinc 2 1, 3) by decide +kernel) (by decide +kernel)))
    (ok_leaf (ok_goto (show decode cX11_allLetters 30 = .ok (.goto (-26), 3) by decide +kernel) (by decide +kernel))))
    (ok_node
    (ok_leaf (ok_iload_n (show decode cX11_allLetters 33 = .ok (.iload_n 1, 1) by decide +kernel) rfl))
    (ok_leaf (ok_ireturn (show decode cX11_allLetters 34 = .ok (.ireturn, 1) by decide +kernel) rfl))))))
set_option maxRecDepth 20000 in
set_option maxHeartbeats 4000000 in
theorem ok_X11_laysStanding {sc : List Int32} : ∀ pc, pOk mtOf 189 M_X11_laysStanding false sc pc (cd_X11_laysStanding pc) := by
  unfold cd_X11_laysStanding
  exact ok_node
    (ok_node
    (ok_node
    (ok_node
    (ok_node
    (ok_leaf (ok_aload_n (show decode cX11_laysStanding 0 = .ok (.aload_n 0, 1) by decide +kernel) rfl))
    (ok_leaf (ok_bipush (show decode cX11_laysStanding 1 = .ok (.bipush 9, 2) by decide +kernel) (by decide +kernel))))
    (ok_node
    (ok_leaf (ok_aload_n (show decode cX11_laysStanding 3 = .ok (.aload_n 0, 1) by decide +kernel) rfl))
    (ok_leaf (ok_callV (C := RX11) (T := TX11) (N := 31) (Mc := M_X11_allLetters) (show decode cX11_laysStanding 4 = .ok (.invokevirtual 216, 3) by decide +kernel) rfl (by decide) (by decide +kernel) rfl rfl wd_708 wd_709 wd_710 wd_558 wd_711 ⟨by decide +kernel, by decide +kernel, by decide +kernel⟩ (by decide)))))
    (ok_node
    (ok_node
    (ok_leaf (ok_callV (C := RX11) (T := TX11) (N := 31) (Mc := M_X11_flexIn) (show decode cX11_laysStanding 7 = .ok (.invokevirtual 159, 3) by decide +kernel) rfl (by decide) (by decide +kernel) rfl rfl wd_643 wd_644 wd_645 wd_558 wd_646 ⟨by decide +kernel, by decide +kernel, by decide +kernel⟩ (by decide)))
    (ok_leaf (ok_istore_n (show decode cX11_laysStanding 10 = .ok (.istore_n 1, 1) by decide +kernel) rfl)))
    (ok_node
    (ok_leaf (ok_aload_n (show decode cX11_laysStanding 11 = .ok (.aload_n 0, 1) by decide +kernel) rfl))
    (ok_node
    (ok_leaf (ok_iconst (show decode cX11_laysStanding 12 = .ok (.iconst 0, 1) by decide +kernel) (by decide +kernel)))
    (ok_leaf (ok_putI (show decode cX11_laysStanding 13 = .ok (.putfield 219, 3) by decide +kernel) (Or.inl (fd_X11 (by decide) wd_712 rfl rfl)) rfl))))))
    (ok_node
    (ok_node
    (ok_node
    (ok_leaf (ok_iconst (show decode cX11_laysStanding 16 = .ok (.iconst 0, 1) by decide +kernel) (by decide +kernel)))
    (ok_leaf (ok_istore_n (show decode cX11_laysStanding 17 = .ok (.istore_n 2, 1) by decide +kernel) rfl)))
    (ok_node
    (ok_leaf (ok_iload_n (show decode cX11_laysStanding 18 = .ok (.iload_n 2, 1) by decide +kernel) rfl))
    (ok_leaf (ok_bipush (show decode cX11_laysStanding 19 = .ok (.bipush 6, 2) by decide +kernel) (by decide +kernel)))))
    (ok_node
    (ok_node
    (ok_leaf (ok_icmp_ge (show decode cX11_laysStanding 21 = .ok (.if_icmp .ge 38, 3) by decide +kernel) (by decide +kernel)))
    (ok_leaf (ok_iload_n (show decode cX11_laysStanding 24 = .ok (.iload_n 1, 1) by decide +kernel) rfl)))
    (ok_node
    (ok_leaf (ok_iload_n (show decode cX11_laysStanding 25 = .ok (.iload_n 2, 1) by decide +kernel) rfl))
    (ok_node
    (ok_leaf (ok_ishr (show decode cX11_laysStanding 26 = .ok (.ishr, 1) by decide +kernel)))
    (ok_leaf (ok_iconst (show decode cX11_laysStanding 27 = .ok (.iconst 1, 1) by decide +kernel) (by decide +kernel))))))))
    (ok_node
    (ok_node
    (ok_node
    (ok_node
    (ok_leaf (ok_iand (show decode cX11_laysStanding 28 = .ok (.iand, 1) by decide +kernel)))
    (ok_leaf (ok_iconst (show decode cX11_laysStanding 29 = .ok (.iconst 1, 1) by decide +kernel) (by decide +kernel))))
    (ok_node
    (ok_leaf (ok_icmp_ne (show decode cX11_laysStanding 30 = .ok (.if_icmp .ne 23, 3) by decide +kernel) (by decide +kernel)))
    (ok_leaf (ok_aload_n (show decode cX11_laysStanding 33 = .ok (.aload_n 0, 1) by decide +kernel) rfl))))
    (ok_node
    (ok_node
    (ok_leaf (ok_getfield (show decode cX11_laysStanding 34 = .ok (.getfield 46, 3) by decide +kernel) (Or.inr (fdF_X11 (by decide) wd_548 rfl rfl))))
    (ok_leaf (ok_aload_n (show decode cX11_laysStanding 37 = .ok (.aload_n 0, 1) by decide +kernel) rfl)))
    (ok_node
    (ok_leaf (ok_getfield (show decode cX11_laysStanding 38 = .ok (.getfield 219, 3) by decide +kernel) (Or.inl (fd_X11 (by decide) wd_712 rfl rfl))))
    (ok_node
    (ok_leaf (ok_iload_n (show decode cX11_laysStanding 41 = .ok (.iload_n 2, 1) by decide +kernel) rfl))
    (ok_leaf (ok_iastore (show decode cX11_laysStanding 42 = .ok (.iastore, 1) by decide +kernel)))))))
    (ok_node
    (ok_node
    (ok_node
    (ok_leaf (ok_aload_n (show decode cX11_laysStanding 43 = .ok (.aload_n 0, 1) by decide +kernel) rfl))
    (ok_leaf (ok_dup (show decode cX11_laysStanding 44 = .ok (.dup, 1) by decide +kernel))))
    (ok_node
    (ok_leaf (ok_getfield (show decode cX11_laysStanding 45 = .ok (.getfield 219, 3) by decide +kernel) (Or.inl (fd_X11 (by decide) wd_712 rfl rfl))))
    (ok_leaf (ok_iconst (show decode cX11_laysStanding 48 = .ok (.iconst 1, 1) by decide +kernel) (by decide +kernel)))))
    (ok_node
    (ok_node
    (ok_leaf (ok_iadd (show decode cX11_laysStanding 49 = .ok (.iadd, 1) by decide +kernel)))
    (ok_leaf (ok_putI (show decode cX11_laysStanding 50 = .ok (.putfield 219, 3) by decide +kernel) (Or.inl (fd_X11 (by decide) wd_712 rfl rfl)) rfl)))
    (ok_node
    (ok_leaf (ok_iinc (show decode cX11_laysStanding 53 = .ok (.iinc 2 1, 3) by decide +kernel) (by decide +kernel)))
    (ok_node
    (ok_leaf (ok_goto (show decode cX11_laysStanding 56 = .ok (.goto (-38), 3) by decide +kernel) (by decide +kernel)))
    (ok_leaf (ok_return (show decode cX11_laysStanding 59 = .ok (.return_, 1) by decide +kernel) rfl)))))))
set_option maxRecDepth 20000 in
set_option maxHeartbeats 4000000 in
theorem ok_X11_grown {sc : List Int32} : ∀ pc, pOk mtOf 189 M_X11_grown false sc pc (cd_X11_grown pc) := by
  unfold cd_X11_grown
  exact ok_node
    (ok_node
    (ok_node
    (ok_node
    (ok_node
    (ok_leaf (ok_iconst (show decode cX11_grown 0 = .ok (.iconst 0, 1) by decide +kernel) (by decide +kernel)))
    (ok_leaf (ok_istore (show decode cX11_grown 1 = .ok (.istore 4, 2) by decide +kernel))))
    (ok_node
    (ok_leaf (ok_aload_n (show decode cX11_grown 3 = .ok (.aload_n 0, 1) by decide +kernel) rfl))
    (ok_leaf (ok_getfield (show decode cX11_grown 4 = .ok (.getfield 43, 3) by decide +kernel) (Or.inr (fdF_X11 (by decide) wd_547 rfl rfl))))))
    (ok_node
    (ok_node
    (ok_leaf (ok_iload_n (show decode cX11_grown 7 = .ok (.iload_n 1, 1) by decide +kernel) rfl))
    (ok_leaf (ok_iaload (show decode cX11_grown 8 = .ok (.iaload, 1) by decide +kernel))))
    (ok_node
    (ok_leaf (ok_istore (show decode cX11_grown 9 = .ok (.istore 5, 2) by decide +kernel)))
    (ok_leaf (ok_iload (show decode cX11_grown 11 = .ok (.iload 5, 2) by decide +kernel))))))
    (ok_node
    (ok_node
    (ok_node
    (ok_leaf (ok_if_le (show decode cX11_grown 13 = .ok (.ifCond .le 45, 3) by decide +kernel) (by decide +kernel)))
    (ok_leaf (ok_iload (show decode cX11_grown 16 = .ok (.iload 5, 2) by decide +kernel))))
    (ok_node
    (ok_leaf (ok_bipush (show decode cX11_grown 18 = .ok (.bipush 7, 2) by decide +kernel) (by decide +kernel)))
    (ok_leaf (ok_iand (show decode cX11_grown 20 = .ok (.iand, 1) by decide +kernel)))))
    (ok_node
    (ok_node
    (ok_leaf (ok_istore (show decode cX11_grown 21 = .ok (.istore 6, 2) by decide +kernel)))
    (ok_leaf (ok_iload (show decode cX11_grown 23 = .ok (.iload 4, 2) by decide +kernel))))
    (ok_node
    (ok_leaf (ok_iload (show decode cX11_grown 25 = .ok (.iload 6, 2) by decide +kernel)))
    (ok_node
    (ok_leaf (ok_iconst (show decode cX11_grown 27 = .ok (.iconst 1, 1) by decide +kernel) (by decide +kernel)))
    (ok_leaf (ok_icmp_ne (show decode cX11_grown 28 = .ok (.if_icmp .ne 7, 3) by decide +kernel) (by decide +kernel))))))))
    (ok_node
    (ok_node
    (ok_node
    (ok_node
    (ok_leaf (ok_iload_n (show decode cX11_grown 31 = .ok (.iload_n 2, 1) by decide +kernel) rfl))
    (ok_leaf (ok_goto (show decode cX11_grown 32 = .ok (.goto 14, 3) by decide +kernel) (by decide +kernel))))
    (ok_node
    (ok_leaf (ok_iload (show decode cX11_grown 35 = .ok (.iload 6, 2) by decide +kernel)))
    (ok_leaf (ok_iconst (show decode cX11_grown 37 = .ok (.iconst 2, 1) by decide +kernel) (by decide +kernel)))))
    (ok_node
    (ok_node
    (ok_leaf (ok_icmp_ne (show decode cX11_grown 38 = .ok (.if_icmp .ne 7, 3) by decide +kernel) (by decide +kernel)))
    (ok_leaf (ok_iload_n (show decode cX11_grown 41 = .ok (.iload_n 3, 1) by decide +kernel) rfl)))
    (ok_node
    (ok_leaf (ok_goto (show decode cX11_grown 42 = .ok (.goto 4, 3) by decide +kernel) (by decide +kernel)))
    (ok_leaf (ok_iconst (show decode cX11_grown 45 = .ok (.iconst 1, 1) by decide +kernel) (by decide +kernel))))))
    (ok_node
    (ok_node
    (ok_node
    (ok_leaf (ok_iadd (show decode cX11_grown 46 = .ok (.iadd, 1) by decide +kernel)))
    (ok_leaf (ok_istore (show decode cX11_grown 47 = .ok (.istore 4, 2) by decide +kernel))))
    (ok_node
    (ok_leaf (ok_iload (show decode cX11_grown 49 = .ok (.iload 5, 2) by decide +kernel)))
    (ok_leaf (ok_iconst (show decode cX11_grown 51 = .ok (.iconst 3, 1) by decide +kernel) (by decide +kernel)))))
    (ok_node
    (ok_node
    (ok_leaf (ok_ishr (show decode cX11_grown 52 = .ok (.ishr, 1) by decide +kernel)))
    (ok_leaf (ok_istore (show decode cX11_grown 53 = .ok (.istore 5, 2) by decide +kernel))))
    (ok_node
    (ok_leaf (ok_goto (show decode cX11_grown 55 = .ok (.goto (-44), 3) by decide +kernel) (by decide +kernel)))
    (ok_node
    (ok_leaf (ok_iload (show decode cX11_grown 58 = .ok (.iload 4, 2) by decide +kernel)))
    (ok_leaf (ok_ireturn (show decode cX11_grown 60 = .ok (.ireturn, 1) by decide +kernel) rfl)))))))
set_option maxRecDepth 20000 in
set_option maxHeartbeats 4000000 in
theorem ok_X11_comesTo {sc : List Int32} : ∀ pc, pOk mtOf 189 M_X11_comesTo false sc pc (cd_X11_comesTo pc) := by
  unfold cd_X11_comesTo
  exact ok_node
    (ok_node
    (ok_node
    (ok_node
    (ok_node
    (ok_node
    (ok_leaf (ok_iconst (show decode cX11_comesTo 0 = .ok (.iconst 0, 1) by decide +kernel) (by decide +kernel)))
    (ok_leaf (ok_istore_n (show decode cX11_comesTo 1 = .ok (.istore_n 3, 1) by decide +kernel) rfl)))
    (ok_node
    (ok_leaf (ok_aload_n (show decode cX11_comesTo 2 = .ok (.aload_n 0, 1) by decide +kernel) rfl))
    (ok_node
    (ok_leaf (ok_iload_n (show decode cX11_comesTo 3 = .ok (.iload_n 1, 1) by decide +kernel) rfl))
    (ok_leaf (ok_iload_n (show decode cX11_comesTo 4 = .ok (.iload_n 2, 1) by decide +kernel) rfl)))))
    (ok_node
    (ok_node
    (ok_leaf (ok_callV (C := RX11) (T := TX11) (N := 31) (Mc := M_X11_beginOf) (show decode cX11_comesTo 5 = .ok (.invokevirtual 150, 3) by decide +kernel) rfl (by decide) (by decide +kernel) rfl rfl wd_631 wd_632 wd_633 wd_558 wd_634 ⟨by decide +kernel, by decide +kernel, by decide +kernel⟩ (by decide)))
    (ok_node
    (ok_leaf (ok_istore (show decode cX11_comesTo 8 = .ok (.istore 4, 2) by decide +kernel)))
    (ok_leaf (ok_iload (show decode cX11_comesTo 10 = .ok (.iload 4, 2) by decide +kernel)))))
    (ok_node
    (ok_leaf (ok_aload_n (show decode cX11_comesTo 12 = .ok (.aload_n 0, 1) by decide +kernel) rfl))
    (ok_node
    (ok_leaf (ok_iload_n (show decode cX11_comesTo 13 = .ok (.iload_n 1, 1) by decide +kernel) rfl))
    (ok_leaf (ok_iload_n (show decode cX11_comesTo 14 = .ok (.iload_n 2, 1) by decide +kernel) rfl))))))
    (ok_node
    (ok_node
    (ok_node
    (ok_leaf (ok_callV (C := RX11) (T := TX11) (N := 31) (Mc := M_X11_nodesOf) (show decode cX11_comesTo 15 = .ok (.invokevirtual 153, 3) by decide +kernel) rfl (by decide) (by decide +kernel) rfl rfl wd_635 wd_636 wd_637 wd_558 wd_638 ⟨by decide +kernel, by decide +kernel, by decide +kernel⟩ (by decide)))
    (ok_node
    (ok_leaf (ok_iadd (show decode cX11_comesTo 18 = .ok (.iadd, 1) by decide +kernel)))
    (ok_leaf (ok_iconst (show decode cX11_comesTo 19 = .ok (.iconst 1, 1) by decide +kernel) (by decide +kernel)))))
    (ok_node
    (ok_leaf (ok_isub (show decode cX11_comesTo 20 = .ok (.isub, 1) by decide +kernel)))
    (ok_node
    (ok_leaf (ok_istore (show decode cX11_comesTo 21 = .ok (.istore 5, 2) by decide +kernel)))
    (ok_leaf (ok_iload (show decode cX11_comesTo 23 = .ok (.iload 5, 2) by decide +kernel))))))
    (ok_node
    (ok_node
    (ok_leaf (ok_iload (show decode cX11_comesTo 25 = .ok (.iload 4, 2) by decide +kernel)))
    (ok_node
    (ok_leaf (ok_icmp_lt (show decode cX11_comesTo 27 = .ok (.if_icmp .lt 133, 3) by decide +kernel) (by decide +kernel)))
    (ok_leaf (ok_aload_n (show decode cX11_comesTo 30 = .ok (.aload_n 0, 1) by decide +kernel) rfl))))
    (ok_node
    (ok_leaf (ok_getfield (show decode cX11_comesTo 31 = .ok (.getfield 7, 3) by decide +kernel) (Or.inr (fdF_X11 (by decide) wd_536 rfl rfl))))
    (ok_node
    (ok_leaf (ok_iload (show decode cX11_comesTo 34 = .ok (.iload 5, 2) by decide +kernel)))
    (ok_leaf (ok_iaload (show decode cX11_comesTo 36 = .ok (.iaload, 1) by decide +kernel))))))))
    (ok_node
    (ok_node
    (ok_node
    (ok_node
    (ok_leaf (ok_callS (Mc := M_X11_partsOf) (show decode cX11_comesTo 37 = .ok (.invokestatic 89, 3) by decide +kernel) rfl (by decide) (by decide +kernel) wd_572 wd_573 wd_558 wd_574 ⟨by decide +kernel, by decide +kernel, by decide +kernel⟩ (by decide)))
    (ok_leaf (ok_istore (show decode cX11_comesTo 40 = .ok (.istore 6, 2) by decide +kernel))))
    (ok_node
    (ok_leaf (ok_iload (show decode cX11_comesTo 42 = .ok (.iload 6, 2) by decide +kernel)))
    (ok_node
    (ok_leaf (ok_if_le (show decode cX11_comesTo 44 = .ok (.ifCond .le 14, 3) by decide +kernel) (by decide +kernel)))
    (ok_leaf (ok_aload_n (show decode cX11_comesTo 47 = .ok (.aload_n 0, 1) by decide +kernel) rfl)))))
    (ok_node
    (ok_node
    (ok_leaf (ok_getfield (show decode cX11_comesTo 48 = .ok (.getfield 58, 3) by decide +kernel) (Or.inr (fdF_X11 (by decide) wd_552 rfl rfl))))
    (ok_node
    (ok_leaf (ok_iload_n (show decode cX11_comesTo 51 = .ok (.iload_n 3, 1) by decide +kernel) rfl))
    (ok_leaf (ok_iconst (show decode cX11_comesTo 52 = .ok (.iconst 1, 1) by decide +kernel) (by decide +kernel)))))
    (ok_node
    (ok_leaf (ok_isub (show decode cX11_comesTo 53 = .ok (.isub, 1) by decide +kernel)))
    (ok_node
    (ok_leaf (ok_iaload (show decode cX11_comesTo 54 = .ok (.iaload, 1) by decide +kernel)))
    (ok_leaf (ok_goto (show decode cX11_comesTo 55 = .ok (.goto 4, 3) by decide +kernel) (by decide +kernel)))))))
    (ok_node
    (ok_node
    (ok_node
    (ok_leaf (ok_iconst (show decode cX11_comesTo 58 = .ok (.iconst 0, 1) by decide +kernel) (by decide +kernel)))
    (ok_node
    (ok_leaf (ok_istore (show decode cX11_comesTo 59 = .ok (.istore 7, 2) by decide +kernel)))
    (ok_leaf (ok_iload (show decode cX11_comesTo 61 = .ok (.iload 6, 2) by decide +kernel)))))
    (ok_node
    (ok_leaf (ok_iconst (show decode cX11_comesTo 63 = .ok (.iconst 1, 1) by decide +kernel) (by decide +kernel)))
    (ok_node
    (ok_leaf (ok_icmp_le (show decode cX11_comesTo 64 = .ok (.if_icmp .le 14, 3) by decide +kernel) (by decide +kernel)))
    (ok_leaf (ok_aload_n (show decode cX11_comesTo 67 = .ok (.aload_n 0, 1) by decide +kernel) rfl)))))
    (ok_node
    (ok_node
    (ok_leaf (ok_getfield (show decode cX11_comesTo 68 = .ok (.getfield 58, 3) by decide +kernel) (Or.inr (fdF_X11 (by decide) wd_552 rfl rfl))))
    (ok_node
    (ok_leaf (ok_iload_n (show decode cX11_comesTo 71 = .ok (.iload_n 3, 1) by decide +kernel) rfl))
    (ok_leaf (ok_iconst (show decode cX11_comesTo 72 = .ok (.iconst 2, 1) by decide +kernel) (by decide +kernel)))))
    (ok_node
    (ok_leaf (ok_isub (show decode cX11_comesTo 73 = .ok (.isub, 1) by decide +kernel)))
    (ok_node
    (ok_leaf (ok_iaload (show decode cX11_comesTo 74 = .ok (.iaload, 1) by decide +kernel)))
    (ok_leaf (ok_goto (show decode cX11_comesTo 75 = .ok (.goto 4, 3) by decide +kernel) (by decide +kernel)))))))))
    (ok_node
    (ok_node
    (ok_node
    (ok_node
    (ok_node
    (ok_leaf (ok_iconst (show decode cX11_comesTo 78 = .ok (.iconst 0, 1) by decide +kernel) (by decide +kernel)))
    (ok_leaf (ok_istore (show decode cX11_comesTo 79 = .ok (.istore 8, 2) by decide +kernel))))
    (ok_node
    (ok_leaf (ok_iload_n (show decode cX11_comesTo 81 = .ok (.iload_n 3, 1) by decide +kernel) rfl))
    (ok_node
    (ok_leaf (ok_iload (show decode cX11_comesTo 82 = .ok (.iload 6, 2) by decide +kernel)))
    (ok_leaf (ok_isub (show decode cX11_comesTo 84 = .ok (.isub, 1) by decide +kernel))))))
    (ok_node
    (ok_node
    (ok_leaf (ok_istore_n (show decode cX11_comesTo 85 = .ok (.istore_n 3, 1) by decide +kernel) rfl))
    (ok_node
    (ok_leaf (ok_aload_n (show decode cX11_comesTo 86 = .ok (.aload_n 0, 1) by decide +kernel) rfl))
    (ok_leaf (ok_getfield (show decode cX11_comesTo 87 = .ok (.getfield 7, 3) by decide +kernel) (Or.inr (fdF_X11 (by decide) wd_536 rfl rfl))))))
    (ok_node
    (ok_leaf (ok_iload (show decode cX11_comesTo 90 = .ok (.iload 5, 2) by decide +kernel)))
    (ok_node
    (ok_leaf (ok_iaload (show decode cX11_comesTo 92 = .ok (.iaload, 1) by decide +kernel)))
    (ok_leaf (ok_callS (Mc := M_X11_isFlex) (show decode cX11_comesTo 93 = .ok (.invokestatic 85, 3) by decide +kernel) rfl (by decide) (by decide +kernel) wd_569 wd_570 wd_558 wd_571 ⟨by decide +kernel, by decide +kernel, by decide +kernel⟩ (by decide)))))))
    (ok_node
    (ok_node
    (ok_node
    (ok_leaf (ok_if_eq (show decode cX11_comesTo 96 = .ok (.ifCond .eq 24, 3) by decide +kernel) (by decide +kernel)))
    (ok_node
    (ok_leaf (ok_aload_n (show decode cX11_comesTo 99 = .ok (.aload_n 0, 1) by decide +kernel) rfl))
    (ok_leaf (ok_aload_n (show decode cX11_comesTo 100 = .ok (.aload_n 0, 1) by decide +kernel) rfl))))
    (ok_node
    (ok_leaf (ok_getfield (show decode cX11_comesTo 101 = .ok (.getfield 7, 3) by decide +kernel) (Or.inr (fdF_X11 (by decide) wd_536 rfl rfl))))
    (ok_node
    (ok_leaf (ok_iload (show decode cX11_comesTo 104 = .ok (.iload 5, 2) by decide +kernel)))
    (ok_leaf (ok_iaload (show decode cX11_comesTo 106 = .ok (.iaload, 1) by decide +kernel))))))
    (ok_node
    (ok_node
    (ok_leaf (ok_bipush (show decode cX11_comesTo 107 = .ok (.bipush 85, 2) by decide +kernel) (by decide +kernel)))
    (ok_node
    (ok_leaf (ok_isub (show decode cX11_comesTo 109 = .ok (.isub, 1) by decide +kernel)))
    (ok_leaf (ok_iload (show decode cX11_comesTo 110 = .ok (.iload 7, 2) by decide +kernel)))))
    (ok_node
    (ok_leaf (ok_iload (show decode cX11_comesTo 112 = .ok (.iload 8, 2) by decide +kernel)))
    (ok_node
    (ok_leaf (ok_callV (C := RX11) (T := TX11) (N := 31) (Mc := M_X11_grown) (show decode cX11_comesTo 114 = .ok (.invokevirtual 222, 3) by decide +kernel) rfl (by decide) (by decide +kernel) rfl rfl wd_713 wd_714 wd_715 wd_558 wd_716 ⟨by decide +kernel, by decide +kernel, by decide +kernel⟩ (by decide)))
    (ok_leaf (ok_goto (show decode cX11_comesTo 117 = .ok (.goto 10, 3) by decide +kernel) (by decide +kernel))))))))
    (ok_node
    (ok_node
    (ok_node
    (ok_node
    (ok_leaf (ok_iconst (show decode cX11_comesTo 120 = .ok (.iconst 1, 1) by decide +kernel) (by decide +kernel)))
    (ok_node
    (ok_leaf (ok_iload (show decode cX11_comesTo 121 = .ok (.iload 7, 2) by decide +kernel)))
    (ok_leaf (ok_iadd (show decode cX11_comesTo 123 = .ok (.iadd, 1) by decide +kernel)))))
    (ok_node
    (ok_leaf (ok_iload (show decode cX11_comesTo 124 = .ok (.iload 8, 2) by decide +kernel)))
    (ok_node
    (ok_leaf (ok_iadd (show decode cX11_comesTo 126 = .ok (.iadd, 1) by decide +kernel)))
    (ok_leaf (ok_istore (show decode cX11_comesTo 127 = .ok (.istore 9, 2) by decide +kernel))))))
    (ok_node
    (ok_node
    (ok_leaf (ok_aload_n (show decode cX11_comesTo 129 = .ok (.aload_n 0, 1) by decide +kernel) rfl))
    (ok_node
    (ok_leaf (ok_getfield (show decode cX11_comesTo 130 = .ok (.getfield 58, 3) by decide +kernel) (Or.inr (fdF_X11 (by decide) wd_552 rfl rfl))))
    (ok_leaf (ok_iload_n (show decode cX11_comesTo 133 = .ok (.iload_n 3, 1) by decide +kernel) rfl))))
    (ok_node
    (ok_leaf (ok_iload (show decode cX11_comesTo 134 = .ok (.iload 9, 2) by decide +kernel)))
    (ok_node
    (ok_leaf (ok_sipush (show decode cX11_comesTo 136 = .ok (.sipush 1000, 3) by decide +kernel) (by decide +kernel)))
    (ok_leaf (ok_icmp_ge (show decode cX11_comesTo 139 = .ok (.if_icmp .ge 8, 3) by decide +kernel) (by decide +kernel)))))))
    (ok_node
    (ok_node
    (ok_node
    (ok_leaf (ok_iload (show decode cX11_comesTo 142 = .ok (.iload 9, 2) by decide +kernel)))
    (ok_node
    (ok_leaf (ok_goto (show decode cX11_comesTo 144 = .ok (.goto 6, 3) by decide +kernel) (by decide +kernel)))
    (ok_leaf (ok_sipush (show decode cX11_comesTo 147 = .ok (.sipush 1000, 3) by decide +kernel) (by decide +kernel)))))
    (ok_node
    (ok_leaf (ok_iastore (show decode cX11_comesTo 150 = .ok (.iastore, 1) by decide +kernel)))
    (ok_node
    (ok_leaf (ok_iinc (show decode cX11_comesTo 151 = .ok (.iinc 3 1, 3) by decide +kernel) (by decide +kernel)))
    (ok_leaf (ok_iinc (show decode cX11_comesTo 154 = .ok (.iinc 5 (-1), 3) by decide +kernel) (by decide +kernel))))))
    (ok_node
    (ok_node
    (ok_leaf (ok_goto (show decode cX11_comesTo 157 = .ok (.goto (-134), 3) by decide +kernel) (by decide +kernel)))
    (ok_node
    (ok_leaf (ok_aload_n (show decode cX11_comesTo 160 = .ok (.aload_n 0, 1) by decide +kernel) rfl))
    (ok_leaf (ok_getfield (show decode cX11_comesTo 161 = .ok (.getfield 58, 3) by decide +kernel) (Or.inr (fdF_X11 (by decide) wd_552 rfl rfl))))))
    (ok_node
    (ok_leaf (ok_iconst (show decode cX11_comesTo 164 = .ok (.iconst 0, 1) by decide +kernel) (by decide +kernel)))
    (ok_node
    (ok_leaf (ok_iaload (show decode cX11_comesTo 165 = .ok (.iaload, 1) by decide +kernel)))
    (ok_leaf (ok_ireturn (show decode cX11_comesTo 166 = .ok (.ireturn, 1) by decide +kernel) rfl))))))))
set_option maxRecDepth 20000 in
set_option maxHeartbeats 4000000 in
theorem ok_X11_waits {sc : List Int32} : ∀ pc, pOk mtOf 189 M_X11_waits false sc pc (cd_X11_waits pc) := by
  unfold cd_X11_waits
  exact ok_node
    (ok_node
    (ok_node
    (ok_node
    (ok_leaf (ok_aload_n (show decode cX11_waits 0 = .ok (.aload_n 0, 1) by decide +kernel) rfl))
    (ok_leaf (ok_getfield (show decode cX11_waits 1 = .ok (.getfield 61, 3) by decide +kernel) (Or.inr (fdF_X11 (by decide) wd_553 rfl rfl)))))
    (ok_node
    (ok_leaf (ok_aload_n (show decode cX11_waits 4 = .ok (.aload_n 0, 1) by decide +kernel) rfl))
    (ok_leaf (ok_getfield (show decode cX11_waits 5 = .ok (.getfield 225, 3) by decide +kernel) (Or.inl (fd_X11 (by decide) wd_717 rfl rfl))))))
    (ok_node
    (ok_node
    (ok_leaf (ok_iload_n (show decode cX11_waits 8 = .ok (.iload_n 1, 1) by decide +kernel) rfl))
    (ok_leaf (ok_iastore (show decode cX11_waits 9 = .ok (.iastore, 1) by decide +kernel))))
    (ok_node
    (ok_leaf (ok_aload_n (show decode cX11_waits 10 = .ok (.aload_n 0, 1) by decide +kernel) rfl))
    (ok_node
    (ok_leaf (ok_getfield (show decode cX11_waits 11 = .ok (.getfield 64, 3) by decide +kernel) (Or.inr (fdF_X11 (by decide) wd_554 rfl rfl))))
    (ok_leaf (ok_aload_n (show decode cX11_waits 14 = .ok (.aload_n 0, 1) by decide +kernel) rfl))))))
    (ok_node
    (ok_node
    (ok_node
    (ok_leaf (ok_getfield (show decode cX11_waits 15 = .ok (.getfield 225, 3) by decide +kernel) (Or.inl (fd_X11 (by decide) wd_717 rfl rfl))))
    (ok_leaf (ok_iload_n (show decode cX11_waits 18 = .ok (.iload_n 2, 1) by decide +kernel) rfl)))
    (ok_node
    (ok_leaf (ok_iastore (show decode cX11_waits 19 = .ok (.iastore, 1) by decide +kernel)))
    (ok_node
    (ok_leaf (ok_aload_n (show decode cX11_waits 20 = .ok (.aload_n 0, 1) by decide +kernel) rfl))
    (ok_leaf (ok_dup (show decode cX11_waits 21 = .ok (.dup, 1) by decide +kernel))))))
    (ok_node
    (ok_node
    (ok_leaf (ok_getfield (show decode cX11_waits 22 = .ok (.getfield 225, 3) by decide +kernel) (Or.inl (fd_X11 (by decide) wd_717 rfl rfl))))
    (ok_leaf (ok_iconst (show decode cX11_waits 25 = .ok (.iconst 1, 1) by decide +kernel) (by decide +kernel))))
    (ok_node
    (ok_leaf (ok_iadd (show decode cX11_waits 26 = .ok (.iadd, 1) by decide +kernel)))
    (ok_node
    (ok_leaf (ok_putI (show decode cX11_waits 27 = .ok (.putfield 225, 3) by decide +kernel) (Or.inl (fd_X11 (by decide) wd_717 rfl rfl)) rfl))
    (ok_leaf (ok_return (show decode cX11_waits 30 = .ok (.return_, 1) by decide +kernel) rfl))))))
set_option maxRecDepth 20000 in
set_option maxHeartbeats 4000000 in
theorem ok_X11_buildsLetter {sc : List Int32} : ∀ pc, pOk mtOf 189 M_X11_buildsLetter false sc pc (cd_X11_buildsLetter pc) := by
  unfold cd_X11_buildsLetter
  exact ok_node
    (ok_node
    (ok_node
    (ok_node
    (ok_node
    (ok_leaf (ok_aload_n (show decode cX11_buildsLetter 0 = .ok (.aload_n 0, 1) by decide +kernel) rfl))
    (ok_leaf (ok_getfield (show decode cX11_buildsLetter 1 = .ok (.getfield 67, 3) by decide +kernel) (Or.inr (fdF_X11 (by decide) wd_555 rfl rfl)))))
    (ok_node
    (ok_leaf (ok_iload_n (show decode cX11_buildsLetter 4 = .ok (.iload_n 1, 1) by decide +kernel) rfl))
    (ok_leaf (ok_aload_n (show decode cX11_buildsLetter 5 = .ok (.aload_n 0, 1) by decide +kernel) rfl))))
    (ok_node
    (ok_node
    (ok_leaf (ok_getfield (show decode cX11_buildsLetter 6 = .ok (.getfield 7, 3) by decide +kernel) (Or.inr (fdF_X11 (by decide) wd_536 rfl rfl))))
    (ok_leaf (ok_iload_n (show decode cX11_buildsLetter 9 = .ok (.iload_n 2, 1) by decide +kernel) rfl)))
    (ok_node
    (ok_leaf (ok_iaload (show decode cX11_buildsLetter 10 = .ok (.iaload, 1) by decide +kernel)))
    (ok_node
    (ok_leaf (ok_iastore (show decode cX11_buildsLetter 11 = .ok (.iastore, 1) by decide +kernel)))
    (ok_leaf (ok_aload_n (show decode cX11_buildsLetter 12 = .ok (.aload_n 0, 1) by decide +kernel) rfl))))))
    (ok_node
    (ok_node
    (ok_node
    (ok_leaf (ok_getfield (show decode cX11_buildsLetter 13 = .ok (.getfield 7, 3) by decide +kernel) (Or.inr (fdF_X11 (by decide) wd_536 rfl rfl))))
    (ok_leaf (ok_iload_n (show decode cX11_buildsLetter 16 = .ok (.iload_n 2, 1) by decide +kernel) rfl)))
    (ok_node
    (ok_leaf (ok_iaload (show decode cX11_buildsLetter 17 = .ok (.iaload, 1) by decide +kernel)))
    (ok_leaf (ok_callS (Mc := M_X11_partsOf) (show decode cX11_buildsLetter 18 = .ok (.invokestatic 89, 3) by decide +kernel) rfl (by decide) (by decide +kernel) wd_572 wd_573 wd_558 wd_574 ⟨by decide +kernel, by decide +kernel, by decide +kernel⟩ (by decide)))))
    (ok_node
    (ok_node
    (ok_leaf (ok_iconst (show decode cX11_buildsLetter 21 = .ok (.iconst 2, 1) by decide +kernel) (by decide +kernel)))
    (ok_leaf (ok_icmp_ne (show decode cX11_buildsLetter 22 = .ok (.if_icmp .ne 15, 3) by decide +kernel) (by decide +kernel))))
    (ok_node
    (ok_leaf (ok_aload_n (show decode cX11_buildsLetter 25 = .ok (.aload_n 0, 1) by decide +kernel) rfl))
    (ok_node
    (ok_leaf (ok_aload_n (show decode cX11_buildsLetter 26 = .ok (.aload_n 0, 1) by decide +kernel) rfl))
    (ok_leaf (ok_iload_n (show decode cX11_buildsLetter 27 = .ok (.iload_n 2, 1) by decide +kernel) rfl)))))))
    (ok_node
    (ok_node
    (ok_node
    (ok_node
    (ok_leaf (ok_iconst (show decode cX11_buildsLetter 28 = .ok (.iconst 1, 1) by decide +kernel) (by decide +kernel)))
    (ok_leaf (ok_iadd (show decode cX11_buildsLetter 29 = .ok (.iadd, 1) by decide +kernel))))
    (ok_node
    (ok_leaf (ok_callV (C := RX11) (T := TX11) (N := 31) (Mc := M_X11_behind) (show decode cX11_buildsLetter 30 = .ok (.invokevirtual 194, 3) by decide +kernel) rfl (by decide) (by decide +kernel) rfl rfl wd_680 wd_681 wd_682 wd_558 wd_683 ⟨by decide +kernel, by decide +kernel, by decide +kernel⟩ (by decide)))
    (ok_leaf (ok_iconst (show decode cX11_buildsLetter 33 = .ok (.iconst 0, 1) by decide +kernel) (by decide +kernel)))))
    (ok_node
    (ok_node
    (ok_leaf (ok_callV (C := RX11) (T := TX11) (N := 31) (Mc := M_X11_waits) (show decode cX11_buildsLetter 34 = .ok (.invokevirtual 228, 3) by decide +kernel) rfl (by decide) (by decide +kernel) rfl rfl wd_718 wd_719 wd_720 wd_558 wd_721 ⟨by decide +kernel, by decide +kernel, by decide +kernel⟩ (by decide)))
    (ok_leaf (ok_aload_n (show decode cX11_buildsLetter 37 = .ok (.aload_n 0, 1) by decide +kernel) rfl)))
    (ok_node
    (ok_leaf (ok_getfield (show decode cX11_buildsLetter 38 = .ok (.getfield 7, 3) by decide +kernel) (Or.inr (fdF_X11 (by decide) wd_536 rfl rfl))))
    (ok_node
    (ok_leaf (ok_iload_n (show decode cX11_buildsLetter 41 = .ok (.iload_n 2, 1) by decide +kernel) rfl))
    (ok_leaf (ok_iaload (show decode cX11_buildsLetter 42 = .ok (.iaload, 1) by decide +kernel)))))))
    (ok_node
    (ok_node
    (ok_node
    (ok_leaf (ok_callS (Mc := M_X11_partsOf) (show decode cX11_buildsLetter 43 = .ok (.invokestatic 89, 3) by decide +kernel) rfl (by decide) (by decide +kernel) wd_572 wd_573 wd_558 wd_574 ⟨by decide +kernel, by decide +kernel, by decide +kernel⟩ (by decide)))
    (ok_leaf (ok_if_le (show decode cX11_buildsLetter 46 = .ok (.ifCond .le 11, 3) by decide +kernel) (by decide +kernel))))
    (ok_node
    (ok_leaf (ok_aload_n (show decode cX11_buildsLetter 49 = .ok (.aload_n 0, 1) by decide +kernel) rfl))
    (ok_leaf (ok_iload_n (show decode cX11_buildsLetter 50 = .ok (.iload_n 2, 1) by decide +kernel) rfl))))
    (ok_node
    (ok_node
    (ok_leaf (ok_iconst (show decode cX11_buildsLetter 51 = .ok (.iconst 1, 1) by decide +kernel) (by decide +kernel)))
    (ok_leaf (ok_iadd (show decode cX11_buildsLetter 52 = .ok (.iadd, 1) by decide +kernel))))
    (ok_node
    (ok_leaf (ok_iconst (show decode cX11_buildsLetter 53 = .ok (.iconst 0, 1) by decide +kernel) (by decide +kernel)))
    (ok_node
    (ok_leaf (ok_callV (C := RX11) (T := TX11) (N := 31) (Mc := M_X11_waits) (show decode cX11_buildsLetter 54 = .ok (.invokevirtual 228, 3) by decide +kernel) rfl (by decide) (by decide +kernel) rfl rfl wd_718 wd_719 wd_720 wd_558 wd_721 ⟨by decide +kernel, by decide +kernel, by decide +kernel⟩ (by decide)))
    (ok_leaf (ok_return (show decode cX11_buildsLetter 57 = .ok (.return_, 1) by decide +kernel) rfl)))))))
set_option maxRecDepth 20000 in
set_option maxHeartbeats 4000000 in
theorem ok_X11_builds {sc : List Int32} : ∀ pc, pOk mtOf 189 M_X11_builds false sc pc (cd_X11_builds pc) := by
  unfold cd_X11_builds
  exact ok_node
    (ok_node
    (ok_node
    (ok_node
    (ok_node
    (ok_node
    (ok_leaf (ok_iload_n (show decode cX11_builds 0 = .ok (.iload_n 3, 1) by decide +kernel) rfl))
    (ok_node
    (ok_leaf (ok_istore (show decode cX11_builds 1 = .ok (.istore 4, 2) by decide +kernel)))
    (ok_leaf (ok_aload_n (show decode cX11_builds 3 = .ok (.aload_n 0, 1) by decide +kernel) rfl))))
    (ok_node
    (ok_leaf (ok_iconst (show decode cX11_builds 4 = .ok (.iconst 0, 1) by decide +kernel) (by decide +kernel)))
    (ok_node
    (ok_leaf (ok_putI (show decode cX11_builds 5 = .ok (.putfield 225, 3) by decide +kernel) (Or.inl (fd_X11 (by decide) wd_717 rfl rfl)) rfl))
    (ok_leaf (ok_aload_n (show decode cX11_builds 8 = .ok (.aload_n 0, 1) by decide +kernel) rfl)))))
    (ok_node
    (ok_node
    (ok_leaf (ok_aload_n (show decode cX11_builds 9 = .ok (.aload_n 0, 1) by decide +kernel) rfl))
    (ok_node
    (ok_leaf (ok_iload_n (show decode cX11_builds 10 = .ok (.iload_n 1, 1) by decide +kernel) rfl))
    (ok_leaf (ok_iload_n (show decode cX11_builds 11 = .ok (.iload_n 2, 1) by decide +kernel) rfl))))
    (ok_node
    (ok_leaf (ok_callV (C := RX11) (T := TX11) (N := 31) (Mc := M_X11_beginOf) (show decode cX11_builds 12 = .ok (.invokevirtual 150, 3) by decide +kernel) rfl (by decide) (by decide +kernel) rfl rfl wd_631 wd_632 wd_633 wd_558 wd_634 ⟨by decide +kernel, by decide +kernel, by decide +kernel⟩ (by decide)))
    (ok_node
    (ok_leaf (ok_iconst (show decode cX11_builds 15 = .ok (.iconst 0, 1) by decide +kernel) (by decide +kernel)))
    (ok_leaf (ok_callV (C := RX11) (T := TX11) (N := 31) (Mc := M_X11_waits) (show decode cX11_builds 16 = .ok (.invokevirtual 228, 3) by decide +kernel) rfl (by decide) (by decide +kernel) rfl rfl wd_718 wd_719 wd_720 wd_558 wd_721 ⟨by decide +kernel, by decide +kernel, by decide +kernel⟩ (by decide)))))))
    (ok_node
    (ok_node
    (ok_node
    (ok_leaf (ok_aload_n (show decode cX11_builds 19 = .ok (.aload_n 0, 1) by decide +kernel) rfl))
    (ok_node
    (ok_leaf (ok_getfield (show decode cX11_builds 20 = .ok (.getfield 225, 3) by decide +kernel) (Or.inl (fd_X11 (by decide) wd_717 rfl rfl))))
    (ok_leaf (ok_if_le (show decode cX11_builds 23 = .ok (.ifCond .le 167, 3) by decide +kernel) (by decide +kernel)))))
    (ok_node
    (ok_leaf (ok_aload_n (show decode cX11_builds 26 = .ok (.aload_n 0, 1) by decide +kernel) rfl))
    (ok_node
    (ok_leaf (ok_dup (show decode cX11_builds 27 = .ok (.dup, 1) by decide +kernel)))
    (ok_leaf (ok_getfield (show decode cX11_builds 28 = .ok (.getfield 225, 3) by decide +kernel) (Or.inl (fd_X11 (by decide) wd_717 rfl rfl)))))))
    (ok_node
    (ok_node
    (ok_leaf (ok_iconst (show decode cX11_builds 31 = .ok (.iconst 1, 1) by decide +kernel) (by decide +kernel)))
    (ok_node
    (ok_leaf (ok_isub (show decode cX11_builds 32 = .ok (.isub, 1) by decide +kernel)))
    (ok_leaf (ok_putI (show decode cX11_builds 33 = .ok (.putfield 225, 3) by decide +kernel) (Or.inl (fd_X11 (by decide) wd_717 rfl rfl)) rfl))))
    (ok_node
    (ok_node
    (ok_leaf (ok_aload_n (show decode cX11_builds 36 = .ok (.aload_n 0, 1) by decide +kernel) rfl))
    (ok_leaf (ok_getfield (show decode cX11_builds 37 = .ok (.getfield 61, 3) by decide +kernel) (Or.inr (fdF_X11 (by decide) wd_553 rfl rfl)))))
    (ok_node
    (ok_leaf (ok_aload_n (show decode cX11_builds 40 = .ok (.aload_n 0, 1) by decide +kernel) rfl))
    (ok_leaf (ok_getfield (show decode cX11_builds 41 = .ok (.getfield 225, 3) by decide +kernel) (Or.inl (fd_X11 (by decide) wd_717 rfl rfl)))))))))
    (ok_node
    (ok_node
    (ok_node
    (ok_node
    (ok_leaf (ok_iaload (show decode cX11_builds 44 = .ok (.iaload, 1) by decide +kernel)))
    (ok_node
    (ok_leaf (ok_istore (show decode cX11_builds 45 = .ok (.istore 5, 2) by decide +kernel)))
    (ok_leaf (ok_aload_n (show decode cX11_builds 47 = .ok (.aload_n 0, 1) by decide +kernel) rfl))))
    (ok_node
    (ok_leaf (ok_getfield (show decode cX11_builds 48 = .ok (.getfield 64, 3) by decide +kernel) (Or.inr (fdF_X11 (by decide) wd_554 rfl rfl))))
    (ok_node
    (ok_leaf (ok_aload_n (show decode cX11_builds 51 = .ok (.aload_n 0, 1) by decide +kernel) rfl))
    (ok_leaf (ok_getfield (show decode cX11_builds 52 = .ok (.getfield 225, 3) by decide +kernel) (Or.inl (fd_X11 (by decide) wd_717 rfl rfl)))))))
    (ok_node
    (ok_node
    (ok_leaf (ok_iaload (show decode cX11_builds 55 = .ok (.iaload, 1) by decide +kernel)))
    (ok_node
    (ok_leaf (ok_istore (show decode cX11_builds 56 = .ok (.istore 6, 2) by decide +kernel)))
    (ok_leaf (ok_aload_n (show decode cX11_builds 58 = .ok (.aload_n 0, 1) by decide +kernel) rfl))))
    (ok_node
    (ok_node
    (ok_leaf (ok_getfield (show decode cX11_builds 59 = .ok (.getfield 7, 3) by decide +kernel) (Or.inr (fdF_X11 (by decide) wd_536 rfl rfl))))
    (ok_leaf (ok_iload (show decode cX11_builds 62 = .ok (.iload 5, 2) by decide +kernel))))
    (ok_node
    (ok_leaf (ok_iaload (show decode cX11_builds 64 = .ok (.iaload, 1) by decide +kernel)))
    (ok_leaf (ok_callS (Mc := M_X11_isFlex) (show decode cX11_builds 65 = .ok (.invokestatic 85, 3) by decide +kernel) rfl (by decide) (by decide +kernel) wd_569 wd_570 wd_558 wd_571 ⟨by decide +kernel, by decide +kernel, by decide +kernel⟩ (by decide)))))))
    (ok_node
    (ok_node
    (ok_node
    (ok_leaf (ok_if_ne (show decode cX11_builds 68 = .ok (.ifCond .ne 17, 3) by decide +kernel) (by decide +kernel)))
    (ok_node
    (ok_leaf (ok_aload_n (show decode cX11_builds 71 = .ok (.aload_n 0, 1) by decide +kernel) rfl))
    (ok_leaf (ok_iload (show decode cX11_builds 72 = .ok (.iload 4, 2) by decide +kernel)))))
    (ok_node
    (ok_leaf (ok_iload (show decode cX11_builds 74 = .ok (.iload 5, 2) by decide +kernel)))
    (ok_node
    (ok_leaf (ok_callV (C := RX11) (T := TX11) (N := 31) (Mc := M_X11_buildsLetter) (show decode cX11_builds 76 = .ok (.invokevirtual 231, 3) by decide +kernel) rfl (by decide) (by decide +kernel) rfl rfl wd_722 wd_723 wd_724 wd_558 wd_725 ⟨by decide +kernel, by decide +kernel, by decide +kernel⟩ (by decide)))
    (ok_leaf (ok_iinc (show decode cX11_builds 79 = .ok (.iinc 4 1, 3) by decide +kernel) (by decide +kernel))))))
    (ok_node
    (ok_node
    (ok_leaf (ok_goto (show decode cX11_builds 82 = .ok (.goto (-63), 3) by decide +kernel) (by decide +kernel)))
    (ok_node
    (ok_leaf (ok_aload_n (show decode cX11_builds 85 = .ok (.aload_n 0, 1) by decide +kernel) rfl))
    (ok_leaf (ok_getfield (show decode cX11_builds 86 = .ok (.getfield 43, 3) by decide +kernel) (Or.inr (fdF_X11 (by decide) wd_547 rfl rfl))))))
    (ok_node
    (ok_node
    (ok_leaf (ok_aload_n (show decode cX11_builds 89 = .ok (.aload_n 0, 1) by decide +kernel) rfl))
    (ok_leaf (ok_getfield (show decode cX11_builds 90 = .ok (.getfield 7, 3) by decide +kernel) (Or.inr (fdF_X11 (by decide) wd_536 rfl rfl)))))
    (ok_node
    (ok_leaf (ok_iload (show decode cX11_builds 93 = .ok (.iload 5, 2) by decide +kernel)))
    (ok_leaf (ok_iaload (show decode cX11_builds 95 = .ok (.iaload, 1) by decide +kernel)))))))))
    (ok_node
    (ok_node
    (ok_node
    (ok_node
    (ok_node
    (ok_leaf (ok_bipush (show decode cX11_builds 96 = .ok (.bipush 85, 2) by decide +kernel) (by decide +kernel)))
    (ok_node
    (ok_leaf (ok_isub (show decode cX11_builds 98 = .ok (.isub, 1) by decide +kernel)))
    (ok_leaf (ok_iaload (show decode cX11_builds 99 = .ok (.iaload, 1) by decide +kernel)))))
    (ok_node
    (ok_leaf (ok_istore (show decode cX11_builds 100 = .ok (.istore 7, 2) by decide +kernel)))
    (ok_node
    (ok_leaf (ok_iload (show decode cX11_builds 102 = .ok (.iload 7, 2) by decide +kernel)))
    (ok_leaf (ok_callS (Mc := M_X11_sizeOf) (show decode cX11_builds 104 = .ok (.invokestatic 234, 3) by decide +kernel) rfl (by decide) (by decide +kernel) wd_726 wd_727 wd_558 wd_728 ⟨by decide +kernel, by decide +kernel, by decide +kernel⟩ (by decide))))))
    (ok_node
    (ok_node
    (ok_leaf (ok_istore (show decode cX11_builds 107 = .ok (.istore 8, 2) by decide +kernel)))
    (ok_node
    (ok_leaf (ok_iload (show decode cX11_builds 109 = .ok (.iload 6, 2) by decide +kernel)))
    (ok_leaf (ok_iload (show decode cX11_builds 111 = .ok (.iload 8, 2) by decide +kernel)))))
    (ok_node
    (ok_node
    (ok_leaf (ok_icmp_ge (show decode cX11_builds 113 = .ok (.if_icmp .ge 74, 3) by decide +kernel) (by decide +kernel)))
    (ok_leaf (ok_iload (show decode cX11_builds 116 = .ok (.iload 7, 2) by decide +kernel))))
    (ok_node
    (ok_leaf (ok_iload (show decode cX11_builds 118 = .ok (.iload 8, 2) by decide +kernel)))
    (ok_leaf (ok_iload (show decode cX11_builds 120 = .ok (.iload 6, 2) by decide +kernel)))))))
    (ok_node
    (ok_node
    (ok_node
    (ok_leaf (ok_callS (Mc := M_X11_signAt) (show decode cX11_builds 122 = .ok (.invokestatic 78, 3) by decide +kernel) rfl (by decide) (by decide +kernel) wd_563 wd_564 wd_558 wd_565 ⟨by decide +kernel, by decide +kernel, by decide +kernel⟩ (by decide)))
    (ok_node
    (ok_leaf (ok_istore (show decode cX11_builds 125 = .ok (.istore 9, 2) by decide +kernel)))
    (ok_leaf (ok_aload_n (show decode cX11_builds 127 = .ok (.aload_n 0, 1) by decide +kernel) rfl))))
    (ok_node
    (ok_leaf (ok_iload (show decode cX11_builds 128 = .ok (.iload 5, 2) by decide +kernel)))
    (ok_node
    (ok_leaf (ok_iload (show decode cX11_builds 130 = .ok (.iload 6, 2) by decide +kernel)))
    (ok_leaf (ok_iconst (show decode cX11_builds 132 = .ok (.iconst 1, 1) by decide +kernel) (by decide +kernel))))))
    (ok_node
    (ok_node
    (ok_leaf (ok_iadd (show decode cX11_builds 133 = .ok (.iadd, 1) by decide +kernel)))
    (ok_node
    (ok_leaf (ok_callV (C := RX11) (T := TX11) (N := 31) (Mc := M_X11_waits) (show decode cX11_builds 134 = .ok (.invokevirtual 228, 3) by decide +kernel) rfl (by decide) (by decide +kernel) rfl rfl wd_718 wd_719 wd_720 wd_558 wd_721 ⟨by decide +kernel, by decide +kernel, by decide +kernel⟩ (by decide)))
    (ok_leaf (ok_iload (show decode cX11_builds 137 = .ok (.iload 9, 2) by decide +kernel)))))
    (ok_node
    (ok_node
    (ok_leaf (ok_iconst (show decode cX11_builds 139 = .ok (.iconst 2, 1) by decide +kernel) (by decide +kernel)))
    (ok_leaf (ok_icmp_le (show decode cX11_builds 140 = .ok (.if_icmp .le 21, 3) by decide +kernel) (by decide +kernel))))
    (ok_node
    (ok_leaf (ok_aload_n (show decode cX11_builds 143 = .ok (.aload_n 0, 1) by decide +kernel) rfl))
    (ok_leaf (ok_getfield (show decode cX11_builds 144 = .ok (.getfield 67, 3) by decide +kernel) (Or.inr (fdF_X11 (by decide) wd_555 rfl rfl)))))))))
    (ok_node
    (ok_node
    (ok_node
    (ok_node
    (ok_leaf (ok_iload (show decode cX11_builds 147 = .ok (.iload 4, 2) by decide +kernel)))
    (ok_node
    (ok_leaf (ok_iload (show decode cX11_builds 149 = .ok (.iload 9, 2) by decide +kernel)))
    (ok_leaf (ok_callS (Mc := M_X11_byteOf) (show decode cX11_builds 151 = .ok (.invokestatic 237, 3) by decide +kernel) rfl (by decide) (by decide +kernel) wd_729 wd_730 wd_558 wd_731 ⟨by decide +kernel, by decide +kernel, by decide +kernel⟩ (by decide)))))
    (ok_node
    (ok_leaf (ok_iastore (show decode cX11_builds 154 = .ok (.iastore, 1) by decide +kernel)))
    (ok_node
    (ok_leaf (ok_iinc (show decode cX11_builds 155 = .ok (.iinc 4 1, 3) by decide +kernel) (by decide +kernel)))
    (ok_leaf (ok_goto (show decode cX11_builds 158 = .ok (.goto 29, 3) by decide +kernel) (by decide +kernel))))))
    (ok_node
    (ok_node
    (ok_leaf (ok_aload_n (show decode cX11_builds 161 = .ok (.aload_n 0, 1) by decide +kernel) rfl))
    (ok_node
    (ok_leaf (ok_iload (show decode cX11_builds 162 = .ok (.iload 9, 2) by decide +kernel)))
    (ok_leaf (ok_iconst (show decode cX11_builds 164 = .ok (.iconst 1, 1) by decide +kernel) (by decide +kernel)))))
    (ok_node
    (ok_node
    (ok_leaf (ok_icmp_ne (show decode cX11_builds 165 = .ok (.if_icmp .ne 10, 3) by decide +kernel) (by decide +kernel)))
    (ok_leaf (ok_iload (show decode cX11_builds 168 = .ok (.iload 5, 2) by decide +kernel))))
    (ok_node
    (ok_leaf (ok_iconst (show decode cX11_builds 170 = .ok (.iconst 1, 1) by decide +kernel) (by decide +kernel)))
    (ok_leaf (ok_iadd (show decode cX11_builds 171 = .ok (.iadd, 1) by decide +kernel)))))))
    (ok_node
    (ok_node
    (ok_node
    (ok_leaf (ok_goto (show decode cX11_builds 172 = .ok (.goto 11, 3) by decide +kernel) (by decide +kernel)))
    (ok_node
    (ok_leaf (ok_aload_n (show decode cX11_builds 175 = .ok (.aload_n 0, 1) by decide +kernel) rfl))
    (ok_leaf (ok_iload (show decode cX11_builds 176 = .ok (.iload 5, 2) by decide +kernel)))))
    (ok_node
    (ok_leaf (ok_iconst (show decode cX11_builds 178 = .ok (.iconst 1, 1) by decide +kernel) (by decide +kernel)))
    (ok_node
    (ok_leaf (ok_iadd (show decode cX11_builds 179 = .ok (.iadd, 1) by decide +kernel)))
    (ok_leaf (ok_callV (C := RX11) (T := TX11) (N := 31) (Mc := M_X11_behind) (show decode cX11_builds 180 = .ok (.invokevirtual 194, 3) by decide +kernel) rfl (by decide) (by decide +kernel) rfl rfl wd_680 wd_681 wd_682 wd_558 wd_683 ⟨by decide +kernel, by decide +kernel, by decide +kernel⟩ (by decide))))))
    (ok_node
    (ok_node
    (ok_leaf (ok_iconst (show decode cX11_builds 183 = .ok (.iconst 0, 1) by decide +kernel) (by decide +kernel)))
    (ok_node
    (ok_leaf (ok_callV (C := RX11) (T := TX11) (N := 31) (Mc := M_X11_waits) (show decode cX11_builds 184 = .ok (.invokevirtual 228, 3) by decide +kernel) rfl (by decide) (by decide +kernel) rfl rfl wd_718 wd_719 wd_720 wd_558 wd_721 ⟨by decide +kernel, by decide +kernel, by decide +kernel⟩ (by decide)))
    (ok_leaf (ok_goto (show decode cX11_builds 187 = .ok (.goto (-168), 3) by decide +kernel) (by decide +kernel)))))
    (ok_node
    (ok_node
    (ok_leaf (ok_iload (show decode cX11_builds 190 = .ok (.iload 4, 2) by decide +kernel)))
    (ok_leaf (ok_iload_n (show decode cX11_builds 192 = .ok (.iload_n 3, 1) by decide +kernel) rfl)))
    (ok_node
    (ok_leaf (ok_isub (show decode cX11_builds 193 = .ok (.isub, 1) by decide +kernel)))
    (ok_leaf (ok_ireturn (show decode cX11_builds 194 = .ok (.ireturn, 1) by decide +kernel) rfl))))))))
set_option maxRecDepth 20000 in
set_option maxHeartbeats 4000000 in
theorem ok_X11_isSolved {sc : List Int32} : ∀ pc, pOk mtOf 189 M_X11_isSolved false sc pc (cd_X11_isSolved pc) := by
  unfold cd_X11_isSolved
  exact ok_node
    (ok_node
    (ok_node
    (ok_node
    (ok_node
    (ok_leaf (ok_aload_n (show decode cX11_isSolved 0 = .ok (.aload_n 0, 1) by decide +kernel) rfl))
    (ok_node
    (ok_leaf (ok_iload_n (show decode cX11_isSolved 1 = .ok (.iload_n 1, 1) by decide +kernel) rfl))
    (ok_leaf (ok_iconst (show decode cX11_isSolved 2 = .ok (.iconst 0, 1) by decide +kernel) (by decide +kernel)))))
    (ok_node
    (ok_node
    (ok_leaf (ok_callV (C := RX11) (T := TX11) (N := 31) (Mc := M_X11_comesTo) (show decode cX11_isSolved 3 = .ok (.invokevirtual 240, 3) by decide +kernel) rfl (by decide) (by decide +kernel) rfl rfl wd_732 wd_733 wd_734 wd_558 wd_735 ⟨by decide +kernel, by decide +kernel, by decide +kernel⟩ (by decide)))
    (ok_leaf (ok_istore_n (show decode cX11_isSolved 6 = .ok (.istore_n 2, 1) by decide +kernel) rfl)))
    (ok_node
    (ok_leaf (ok_iload_n (show decode cX11_isSolved 7 = .ok (.iload_n 2, 1) by decide +kernel) rfl))
    (ok_leaf (ok_sipush (show decode cX11_isSolved 8 = .ok (.sipush 200, 3) by decide +kernel) (by decide +kernel))))))
    (ok_node
    (ok_node
    (ok_leaf (ok_icmp_gt (show decode cX11_isSolved 11 = .ok (.if_icmp .gt 13, 3) by decide +kernel) (by decide +kernel)))
    (ok_node
    (ok_leaf (ok_iload_n (show decode cX11_isSolved 14 = .ok (.iload_n 2, 1) by decide +kernel) rfl))
    (ok_leaf (ok_aload_n (show decode cX11_isSolved 15 = .ok (.aload_n 0, 1) by decide +kernel) rfl))))
    (ok_node
    (ok_node
    (ok_leaf (ok_iload_n (show decode cX11_isSolved 16 = .ok (.iload_n 1, 1) by decide +kernel) rfl))
    (ok_leaf (ok_iconst (show decode cX11_isSolved 17 = .ok (.iconst 1, 1) by decide +kernel) (by decide +kernel))))
    (ok_node
    (ok_leaf (ok_callV (C := RX11) (T := TX11) (N := 31) (Mc := M_X11_comesTo) (show decode cX11_isSolved 18 = .ok (.invokevirtual 240, 3) by decide +kernel) rfl (by decide) (by decide +kernel) rfl rfl wd_732 wd_733 wd_734 wd_558 wd_735 ⟨by decide +kernel, by decide +kernel, by decide +kernel⟩ (by decide)))
    (ok_leaf (ok_icmp_eq (show decode cX11_isSolved 21 = .ok (.if_icmp .eq 5, 3) by decide +kernel) (by decide +kernel)))))))
    (ok_node
    (ok_node
    (ok_node
    (ok_leaf (ok_iconst (show decode cX11_isSolved 24 = .ok (.iconst 0, 1) by decide +kernel) (by decide +kernel)))
    (ok_node
    (ok_leaf (ok_zreturn (show decode cX11_isSolved 25 = .ok (.ireturn, 1) by decide +kernel) rfl))
    (ok_leaf (ok_aload_n (show decode cX11_isSolved 26 = .ok (.aload_n 0, 1) by decide +kernel) rfl))))
    (ok_node
    (ok_node
    (ok_leaf (ok_iload_n (show decode cX11_isSolved 27 = .ok (.iload_n 1, 1) by decide +kernel) rfl))
    (ok_leaf (ok_iconst (show decode cX11_isSolved 28 = .ok (.iconst 0, 1) by decide +kernel) (by decide +kernel))))
    (ok_node
    (ok_leaf (ok_iconst (show decode cX11_isSolved 29 = .ok (.iconst 0, 1) by decide +kernel) (by decide +kernel)))
    (ok_leaf (ok_callV (C := RX11) (T := TX11) (N := 31) (Mc := M_X11_builds) (show decode cX11_isSolved 30 = .ok (.invokevirtual 243, 3) by decide +kernel) rfl (by decide) (by decide +kernel) rfl rfl wd_736 wd_737 wd_738 wd_558 wd_739 ⟨by decide +kernel, by decide +kernel, by decide +kernel⟩ (by decide))))))
    (ok_node
    (ok_node
    (ok_leaf (ok_aload_n (show decode cX11_isSolved 33 = .ok (.aload_n 0, 1) by decide +kernel) rfl))
    (ok_node
    (ok_leaf (ok_iload_n (show decode cX11_isSolved 34 = .ok (.iload_n 1, 1) by decide +kernel) rfl))
    (ok_leaf (ok_iconst (show decode cX11_isSolved 35 = .ok (.iconst 1, 1) by decide +kernel) (by decide +kernel)))))
    (ok_node
    (ok_node
    (ok_leaf (ok_iload_n (show decode cX11_isSolved 36 = .ok (.iload_n 2, 1) by decide +kernel) rfl))
    (ok_leaf (ok_callV (C := RX11) (T := TX11) (N := 31) (Mc := M_X11_builds) (show decode cX11_isSolved 37 = .ok (.invokevirtual 243, 3) by decide +kernel) rfl (by decide) (by decide +kernel) rfl rfl wd_736 wd_737 wd_738 wd_558 wd_739 ⟨by decide +kernel, by decide +kernel, by decide +kernel⟩ (by decide))))
    (ok_node
    (ok_leaf (ok_icmp_ne (show decode cX11_isSolved 40 = .ok (.if_icmp .ne 7, 3) by decide +kernel) (by decide +kernel)))
    (ok_leaf (ok_iconst (show decode cX11_isSolved 43 = .ok (.iconst 1, 1) by decide +kernel) (by decide +kernel))))))))
    (ok_node
    (ok_node
    (ok_node
    (ok_node
    (ok_leaf (ok_goto (show decode cX11_isSolved 44 = .ok (.goto 4, 3) by decide +kernel) (by decide +kernel)))
    (ok_node
    (ok_leaf (ok_iconst (show decode cX11_isSolved 47 = .ok (.iconst 0, 1) by decide +kernel) (by decide +kernel)))
    (ok_leaf (ok_istore_n (show decode cX11_isSolved 48 = .ok (.istore_n 3, 1) by decide +kernel) rfl))))
    (ok_node
    (ok_node
    (ok_leaf (ok_iconst (show decode cX11_isSolved 49 = .ok (.iconst 0, 1) by decide +kernel) (by decide +kernel)))
    (ok_leaf (ok_istore (show decode cX11_isSolved 50 = .ok (.istore 4, 2) by decide +kernel))))
    (ok_node
    (ok_leaf (ok_iload (show decode cX11_isSolved 52 = .ok (.iload 4, 2) by decide +kernel)))
    (ok_leaf (ok_iload_n (show decode cX11_isSolved 54 = .ok (.iload_n 2, 1) by decide +kernel) rfl)))))
    (ok_node
    (ok_node
    (ok_leaf (ok_icmp_ge (show decode cX11_isSolved 55 = .ok (.if_icmp .ge 38, 3) by decide +kernel) (by decide +kernel)))
    (ok_node
    (ok_leaf (ok_iload_n (show decode cX11_isSolved 58 = .ok (.iload_n 3, 1) by decide +kernel) rfl))
    (ok_leaf (ok_if_eq (show decode cX11_isSolved 59 = .ok (.ifCond .eq 34, 3) by decide +kernel) (by decide +kernel)))))
    (ok_node
    (ok_node
    (ok_leaf (ok_aload_n (show decode cX11_isSolved 62 = .ok (.aload_n 0, 1) by decide +kernel) rfl))
    (ok_leaf (ok_getfield (show decode cX11_isSolved 63 = .ok (.getfield 67, 3) by decide +kernel) (Or.inr (fdF_X11 (by decide) wd_555 rfl rfl)))))
    (ok_node
    (ok_leaf (ok_iload (show decode cX11_isSolved 66 = .ok (.iload 4, 2) by decide +kernel)))
    (ok_leaf (ok_iaload (show decode cX11_isSolved 68 = .ok (.iaload, 1) by decide +kernel)))))))
    (ok_node
    (ok_node
    (ok_node
    (ok_leaf (ok_aload_n (show decode cX11_isSolved 69 = .ok (.aload_n 0, 1) by decide +kernel) rfl))
    (ok_node
    (ok_leaf (ok_getfield (show decode cX11_isSolved 70 = .ok (.getfield 67, 3) by decide +kernel) (Or.inr (fdF_X11 (by decide) wd_555 rfl rfl))))
    (ok_leaf (ok_iload_n (show decode cX11_isSolved 73 = .ok (.iload_n 2, 1) by decide +kernel) rfl))))
    (ok_node
    (ok_node
    (ok_leaf (ok_iload (show decode cX11_isSolved 74 = .ok (.iload 4, 2) by decide +kernel)))
    (ok_leaf (ok_iadd (show decode cX11_isSolved 76 = .ok (.iadd, 1) by decide +kernel))))
    (ok_node
    (ok_leaf (ok_iaload (show decode cX11_isSolved 77 = .ok (.iaload, 1) by decide +kernel)))
    (ok_leaf (ok_icmp_ne (show decode cX11_isSolved 78 = .ok (.if_icmp .ne 7, 3) by decide +kernel) (by decide +kernel))))))
    (ok_node
    (ok_node
    (ok_node
    (ok_leaf (ok_iconst (show decode cX11_isSolved 81 = .ok (.iconst 1, 1) by decide +kernel) (by decide +kernel)))
    (ok_leaf (ok_goto (show decode cX11_isSolved 82 = .ok (.goto 4, 3) by decide +kernel) (by decide +kernel))))
    (ok_node
    (ok_leaf (ok_iconst (show decode cX11_isSolved 85 = .ok (.iconst 0, 1) by decide +kernel) (by decide +kernel)))
    (ok_leaf (ok_istore_n (show decode cX11_isSolved 86 = .ok (.istore_n 3, 1) by decide +kernel) rfl))))
    (ok_node
    (ok_node
    (ok_leaf (ok_iinc (show decode cX11_isSolved 87 = .ok (.iinc 4 1, 3) by decide +kernel) (by decide +kernel)))
    (ok_leaf (ok_goto (show decode cX11_isSolved 90 = .ok (.goto (-38), 3) by decide +kernel) (by decide +kernel))))
    (ok_node
    (ok_leaf (ok_iload_n (show decode cX11_isSolved 93 = .ok (.iload_n 3, 1) by decide +kernel) rfl))
    (ok_leaf (ok_zreturn (show decode cX11_isSolved 94 = .ok (.ireturn, 1) by decide +kernel) rfl)))))))
set_option maxRecDepth 20000 in
set_option maxHeartbeats 4000000 in
theorem ok_X11_areSolved {sc : List Int32} : ∀ pc, pOk mtOf 189 M_X11_areSolved false sc pc (cd_X11_areSolved pc) := by
  unfold cd_X11_areSolved
  exact ok_node
    (ok_node
    (ok_node
    (ok_node
    (ok_leaf (ok_iconst (show decode cX11_areSolved 0 = .ok (.iconst 1, 1) by decide +kernel) (by decide +kernel)))
    (ok_leaf (ok_istore_n (show decode cX11_areSolved 1 = .ok (.istore_n 1, 1) by decide +kernel) rfl)))
    (ok_node
    (ok_leaf (ok_iconst (show decode cX11_areSolved 2 = .ok (.iconst 0, 1) by decide +kernel) (by decide +kernel)))
    (ok_node
    (ok_leaf (ok_istore_n (show decode cX11_areSolved 3 = .ok (.istore_n 2, 1) by decide +kernel) rfl))
    (ok_leaf (ok_iload_n (show decode cX11_areSolved 4 = .ok (.iload_n 2, 1) by decide +kernel) rfl)))))
    (ok_node
    (ok_node
    (ok_leaf (ok_aload_n (show decode cX11_areSolved 5 = .ok (.aload_n 0, 1) by decide +kernel) rfl))
    (ok_leaf (ok_getfield (show decode cX11_areSolved 6 = .ok (.getfield 7, 3) by decide +kernel) (Or.inr (fdF_X11 (by decide) wd_536 rfl rfl)))))
    (ok_node
    (ok_leaf (ok_iconst (show decode cX11_areSolved 9 = .ok (.iconst 0, 1) by decide +kernel) (by decide +kernel)))
    (ok_node
    (ok_leaf (ok_iaload (show decode cX11_areSolved 10 = .ok (.iaload, 1) by decide +kernel)))
    (ok_leaf (ok_icmp_ge (show decode cX11_areSolved 11 = .ok (.if_icmp .ge 19, 3) by decide +kernel) (by decide +kernel)))))))
    (ok_node
    (ok_node
    (ok_node
    (ok_leaf (ok_iload_n (show decode cX11_areSolved 14 = .ok (.iload_n 1, 1) by decide +kernel) rfl))
    (ok_leaf (ok_if_eq (show decode cX11_areSolved 15 = .ok (.ifCond .eq 15, 3) by decide +kernel) (by decide +kernel))))
    (ok_node
    (ok_leaf (ok_aload_n (show decode cX11_areSolved 18 = .ok (.aload_n 0, 1) by decide +kernel) rfl))
    (ok_node
    (ok_leaf (ok_iload_n (show decode cX11_areSolved 19 = .ok (.iload_n 2, 1) by decide +kernel) rfl))
    (ok_leaf (ok_callV (C := RX11) (T := TX11) (N := 31) (Mc := M_X11_isSolved) (show decode cX11_areSolved 20 = .ok (.invokevirtual 246, 3) by decide +kernel) rfl (by decide) (by decide +kernel) rfl rfl wd_740 wd_741 wd_742 wd_558 wd_743 ⟨by decide +kernel, by decide +kernel, by decide +kernel⟩ (by decide))))))
    (ok_node
    (ok_node
    (ok_leaf (ok_istore_n (show decode cX11_areSolved 23 = .ok (.istore_n 1, 1) by decide +kernel) rfl))
    (ok_leaf (ok_iinc (show decode cX11_areSolved 24 = .ok (.iinc 2 1, 3) by decide +kernel) (by decide +kernel))))
    (ok_node
    (ok_leaf (ok_goto (show decode cX11_areSolved 27 = .ok (.goto (-23), 3) by decide +kernel) (by decide +kernel)))
    (ok_node
    (ok_leaf (ok_iload_n (show decode cX11_areSolved 30 = .ok (.iload_n 1, 1) by decide +kernel) rfl))
    (ok_leaf (ok_zreturn (show decode cX11_areSolved 31 = .ok (.ireturn, 1) by decide +kernel) rfl))))))
set_option maxRecDepth 20000 in
set_option maxHeartbeats 4000000 in
theorem ok_X11_meets {sc : List Int32} : ∀ pc, pOk mtOf 189 M_X11_meets false sc pc (cd_X11_meets pc) := by
  unfold cd_X11_meets
  exact ok_node
    (ok_node
    (ok_node
    (ok_node
    (ok_node
    (ok_leaf (ok_aload_n (show decode cX11_meets 0 = .ok (.aload_n 0, 1) by decide +kernel) rfl))
    (ok_leaf (ok_getfield (show decode cX11_meets 1 = .ok (.getfield 249, 3) by decide +kernel) (Or.inl (fd_X11 (by decide) wd_744 rfl rfl)))))
    (ok_node
    (ok_leaf (ok_bipush (show decode cX11_meets 4 = .ok (.bipush 40, 2) by decide +kernel) (by decide +kernel)))
    (ok_node
    (ok_leaf (ok_icmp_ge (show decode cX11_meets 6 = .ok (.if_icmp .ge 64, 3) by decide +kernel) (by decide +kernel)))
    (ok_leaf (ok_aload_n (show decode cX11_meets 9 = .ok (.aload_n 0, 1) by decide +kernel) rfl)))))
    (ok_node
    (ok_node
    (ok_leaf (ok_callV (C := RX11) (T := TX11) (N := 31) (Mc := M_X11_areSolved) (show decode cX11_meets 10 = .ok (.invokevirtual 252, 3) by decide +kernel) rfl (by decide) (by decide +kernel) rfl rfl wd_745 wd_746 wd_747 wd_558 wd_748 ⟨by decide +kernel, by decide +kernel, by decide +kernel⟩ (by decide)))
    (ok_leaf (ok_if_eq (show decode cX11_meets 13 = .ok (.ifCond .eq 57, 3) by decide +kernel) (by decide +kernel))))
    (ok_node
    (ok_leaf (ok_iconst (show decode cX11_meets 16 = .ok (.iconst 0, 1) by decide +kernel) (by decide +kernel)))
    (ok_node
    (ok_leaf (ok_istore_n (show decode cX11_meets 17 = .ok (.istore_n 2, 1) by decide +kernel) rfl))
    (ok_leaf (ok_iload_n (show decode cX11_meets 18 = .ok (.iload_n 2, 1) by decide +kernel) rfl))))))
    (ok_node
    (ok_node
    (ok_node
    (ok_leaf (ok_bipush (show decode cX11_meets 19 = .ok (.bipush 6, 2) by decide +kernel) (by decide +kernel)))
    (ok_leaf (ok_icmp_ge (show decode cX11_meets 21 = .ok (.if_icmp .ge 29, 3) by decide +kernel) (by decide +kernel))))
    (ok_node
    (ok_leaf (ok_aload_n (show decode cX11_meets 24 = .ok (.aload_n 0, 1) by decide +kernel) rfl))
    (ok_node
    (ok_leaf (ok_getfield (show decode cX11_meets 25 = .ok (.getfield 52, 3) by decide +kernel) (Or.inr (fdF_X11 (by decide) wd_550 rfl rfl))))
    (ok_leaf (ok_bipush (show decode cX11_meets 28 = .ok (.bipush 6, 2) by decide +kernel) (by decide +kernel))))))
    (ok_node
    (ok_node
    (ok_leaf (ok_aload_n (show decode cX11_meets 30 = .ok (.aload_n 0, 1) by decide +kernel) rfl))
    (ok_leaf (ok_getfield (show decode cX11_meets 31 = .ok (.getfield 249, 3) by decide +kernel) (Or.inl (fd_X11 (by decide) wd_744 rfl rfl)))))
    (ok_node
    (ok_leaf (ok_imul (show decode cX11_meets 34 = .ok (.imul, 1) by decide +kernel)))
    (ok_node
    (ok_leaf (ok_iload_n (show decode cX11_meets 35 = .ok (.iload_n 2, 1) by decide +kernel) rfl))
    (ok_leaf (ok_iadd (show decode cX11_meets 36 = .ok (.iadd, 1) by decide +kernel))))))))
    (ok_node
    (ok_node
    (ok_node
    (ok_node
    (ok_leaf (ok_aload_n (show decode cX11_meets 37 = .ok (.aload_n 0, 1) by decide +kernel) rfl))
    (ok_leaf (ok_getfield (show decode cX11_meets 38 = .ok (.getfield 43, 3) by decide +kernel) (Or.inr (fdF_X11 (by decide) wd_547 rfl rfl)))))
    (ok_node
    (ok_leaf (ok_iload_n (show decode cX11_meets 41 = .ok (.iload_n 2, 1) by decide +kernel) rfl))
    (ok_node
    (ok_leaf (ok_iaload (show decode cX11_meets 42 = .ok (.iaload, 1) by decide +kernel)))
    (ok_leaf (ok_iastore (show decode cX11_meets 43 = .ok (.iastore, 1) by decide +kernel))))))
    (ok_node
    (ok_node
    (ok_leaf (ok_iinc (show decode cX11_meets 44 = .ok (.iinc 2 1, 3) by decide +kernel) (by decide +kernel)))
    (ok_leaf (ok_goto (show decode cX11_meets 47 = .ok (.goto (-29), 3) by decide +kernel) (by decide +kernel))))
    (ok_node
    (ok_leaf (ok_aload_n (show decode cX11_meets 50 = .ok (.aload_n 0, 1) by decide +kernel) rfl))
    (ok_node
    (ok_leaf (ok_getfield (show decode cX11_meets 51 = .ok (.getfield 55, 3) by decide +kernel) (Or.inr (fdF_X11 (by decide) wd_551 rfl rfl))))
    (ok_leaf (ok_aload_n (show decode cX11_meets 54 = .ok (.aload_n 0, 1) by decide +kernel) rfl))))))
    (ok_node
    (ok_node
    (ok_node
    (ok_leaf (ok_getfield (show decode cX11_meets 55 = .ok (.getfield 249, 3) by decide +kernel) (Or.inl (fd_X11 (by decide) wd_744 rfl rfl))))
    (ok_leaf (ok_iload_n (show decode cX11_meets 58 = .ok (.iload_n 1, 1) by decide +kernel) rfl)))
    (ok_node
    (ok_leaf (ok_iastore (show decode cX11_meets 59 = .ok (.iastore, 1) by decide +kernel)))
    (ok_node
    (ok_leaf (ok_aload_n (show decode cX11_meets 60 = .ok (.aload_n 0, 1) by decide +kernel) rfl))
    (ok_leaf (ok_dup (show decode cX11_meets 61 = .ok (.dup, 1) by decide +kernel))))))
    (ok_node
    (ok_node
    (ok_leaf (ok_getfield (show decode cX11_meets 62 = .ok (.getfield 249, 3) by decide +kernel) (Or.inl (fd_X11 (by decide) wd_744 rfl rfl))))
    (ok_leaf (ok_iconst (show decode cX11_meets 65 = .ok (.iconst 1, 1) by decide +kernel) (by decide +kernel))))
    (ok_node
    (ok_leaf (ok_iadd (show decode cX11_meets 66 = .ok (.iadd, 1) by decide +kernel)))
    (ok_node
    (ok_leaf (ok_putI (show decode cX11_meets 67 = .ok (.putfield 249, 3) by decide +kernel) (Or.inl (fd_X11 (by decide) wd_744 rfl rfl)) rfl))
    (ok_leaf (ok_return (show decode cX11_meets 70 = .ok (.return_, 1) by decide +kernel) rfl)))))))
