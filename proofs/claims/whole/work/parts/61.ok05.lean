set_option maxRecDepth 20000 in
set_option maxHeartbeats 4000000 in
theorem ok_X11_isBody {sc : List Int32} : ∀ pc, pOk mtOf 189 M_X11_isBody false sc pc (cd_X11_isBody pc) := by
  unfold cd_X11_isBody
  exact ok_node
    (ok_node
    (ok_node
    (ok_node
    (ok_node
    (ok_leaf (ok_iconst (show decode cX11_isBody 0 = .ok (.iconst 1, 1) by decide +kernel) (by decide +kernel)))
    (ok_node
    (ok_leaf (ok_istore_n (show decode cX11_isBody 1 = .ok (.istore_n 3, 1) by decide +kernel) rfl))
    (ok_leaf (ok_iconst (show decode cX11_isBody 2 = .ok (.iconst 1, 1) by decide +kernel) (by decide +kernel)))))
    (ok_node
    (ok_leaf (ok_istore (show decode cX11_isBody 3 = .ok (.istore 4, 2) by decide +kernel)))
    (ok_node
    (ok_leaf (ok_iconst (show decode cX11_isBody 5 = .ok (.iconst 0, 1) by decide +kernel) (by decide +kernel)))
    (ok_leaf (ok_istore (show decode cX11_isBody 6 = .ok (.istore 5, 2) by decide +kernel))))))
    (ok_node
    (ok_node
    (ok_leaf (ok_iload (show decode cX11_isBody 8 = .ok (.iload 5, 2) by decide +kernel)))
    (ok_node
    (ok_leaf (ok_iload_n (show decode cX11_isBody 10 = .ok (.iload_n 1, 1) by decide +kernel) rfl))
    (ok_leaf (ok_icmp_ge (show decode cX11_isBody 11 = .ok (.if_icmp .ge 71, 3) by decide +kernel) (by decide +kernel)))))
    (ok_node
    (ok_node
    (ok_leaf (ok_iload_n (show decode cX11_isBody 14 = .ok (.iload_n 0, 1) by decide +kernel) rfl))
    (ok_leaf (ok_iload_n (show decode cX11_isBody 15 = .ok (.iload_n 1, 1) by decide +kernel) rfl)))
    (ok_node
    (ok_leaf (ok_iload (show decode cX11_isBody 16 = .ok (.iload 5, 2) by decide +kernel)))
    (ok_leaf (ok_callS (Mc := M_X11_signAt) (show decode cX11_isBody 18 = .ok (.invokestatic 78, 3) by decide +kernel) rfl (by decide) (by decide +kernel) wd_563 wd_564 wd_558 wd_565 ⟨by decide +kernel, by decide +kernel, by decide +kernel⟩ (by decide)))))))
    (ok_node
    (ok_node
    (ok_node
    (ok_leaf (ok_istore (show decode cX11_isBody 21 = .ok (.istore 6, 2) by decide +kernel)))
    (ok_node
    (ok_leaf (ok_iload (show decode cX11_isBody 23 = .ok (.iload 4, 2) by decide +kernel)))
    (ok_leaf (ok_if_eq (show decode cX11_isBody 25 = .ok (.ifCond .eq 23, 3) by decide +kernel) (by decide +kernel)))))
    (ok_node
    (ok_leaf (ok_iload_n (show decode cX11_isBody 28 = .ok (.iload_n 3, 1) by decide +kernel) rfl))
    (ok_node
    (ok_leaf (ok_if_le (show decode cX11_isBody 29 = .ok (.ifCond .le 19, 3) by decide +kernel) (by decide +kernel)))
    (ok_leaf (ok_iload (show decode cX11_isBody 32 = .ok (.iload 6, 2) by decide +kernel))))))
    (ok_node
    (ok_node
    (ok_leaf (ok_iconst (show decode cX11_isBody 34 = .ok (.iconst 2, 1) by decide +kernel) (by decide +kernel)))
    (ok_node
    (ok_leaf (ok_icmp_gt (show decode cX11_isBody 35 = .ok (.if_icmp .gt 9, 3) by decide +kernel) (by decide +kernel)))
    (ok_leaf (ok_iload (show decode cX11_isBody 38 = .ok (.iload 6, 2) by decide +kernel)))))
    (ok_node
    (ok_node
    (ok_leaf (ok_iload_n (show decode cX11_isBody 40 = .ok (.iload_n 2, 1) by decide +kernel) rfl))
    (ok_leaf (ok_icmp_gt (show decode cX11_isBody 41 = .ok (.if_icmp .gt 7, 3) by decide +kernel) (by decide +kernel))))
    (ok_node
    (ok_leaf (ok_iconst (show decode cX11_isBody 44 = .ok (.iconst 1, 1) by decide +kernel) (by decide +kernel)))
    (ok_leaf (ok_goto (show decode cX11_isBody 45 = .ok (.goto 4, 3) by decide +kernel) (by decide +kernel))))))))
    (ok_node
    (ok_node
    (ok_node
    (ok_node
    (ok_leaf (ok_iconst (show decode cX11_isBody 48 = .ok (.iconst 0, 1) by decide +kernel) (by decide +kernel)))
    (ok_node
    (ok_leaf (ok_istore (show decode cX11_isBody 49 = .ok (.istore 4, 2) by decide +kernel)))
    (ok_leaf (ok_iload_n (show decode cX11_isBody 51 = .ok (.iload_n 3, 1) by decide +kernel) rfl))))
    (ok_node
    (ok_leaf (ok_iload (show decode cX11_isBody 52 = .ok (.iload 6, 2) by decide +kernel)))
    (ok_node
    (ok_leaf (ok_bipush (show decode cX11_isBody 54 = .ok (.bipush 6, 2) by decide +kernel) (by decide +kernel)))
    (ok_leaf (ok_icmp_ne (show decode cX11_isBody 56 = .ok (.if_icmp .ne 7, 3) by decide +kernel) (by decide +kernel))))))
    (ok_node
    (ok_node
    (ok_leaf (ok_iconst (show decode cX11_isBody 59 = .ok (.iconst 1, 1) by decide +kernel) (by decide +kernel)))
    (ok_node
    (ok_leaf (ok_goto (show decode cX11_isBody 60 = .ok (.goto 14, 3) by decide +kernel) (by decide +kernel)))
    (ok_leaf (ok_iload (show decode cX11_isBody 63 = .ok (.iload 6, 2) by decide +kernel)))))
    (ok_node
    (ok_node
    (ok_leaf (ok_iconst (show decode cX11_isBody 65 = .ok (.iconst 5, 1) by decide +kernel) (by decide +kernel)))
    (ok_leaf (ok_icmp_ne (show decode cX11_isBody 66 = .ok (.if_icmp .ne 7, 3) by decide +kernel) (by decide +kernel))))
    (ok_node
    (ok_leaf (ok_iconst (show decode cX11_isBody 69 = .ok (.iconst 0, 1) by decide +kernel) (by decide +kernel)))
    (ok_leaf (ok_goto (show decode cX11_isBody 70 = .ok (.goto 4, 3) by decide +kernel) (by decide +kernel)))))))
    (ok_node
    (ok_node
    (ok_node
    (ok_leaf (ok_iconst (show decode cX11_isBody 73 = .ok (.iconst (-1), 1) by decide +kernel) (by decide +kernel)))
    (ok_node
    (ok_leaf (ok_iadd (show decode cX11_isBody 74 = .ok (.iadd, 1) by decide +kernel)))
    (ok_leaf (ok_istore_n (show decode cX11_isBody 75 = .ok (.istore_n 3, 1) by decide +kernel) rfl))))
    (ok_node
    (ok_leaf (ok_iinc (show decode cX11_isBody 76 = .ok (.iinc 5 1, 3) by decide +kernel) (by decide +kernel)))
    (ok_node
    (ok_leaf (ok_goto (show decode cX11_isBody 79 = .ok (.goto (-71), 3) by decide +kernel) (by decide +kernel)))
    (ok_leaf (ok_iload (show decode cX11_isBody 82 = .ok (.iload 4, 2) by decide +kernel))))))
    (ok_node
    (ok_node
    (ok_leaf (ok_if_eq (show decode cX11_isBody 84 = .ok (.ifCond .eq 11, 3) by decide +kernel) (by decide +kernel)))
    (ok_node
    (ok_leaf (ok_iload_n (show decode cX11_isBody 87 = .ok (.iload_n 3, 1) by decide +kernel) rfl))
    (ok_leaf (ok_if_ne (show decode cX11_isBody 88 = .ok (.ifCond .ne 7, 3) by decide +kernel) (by decide +kernel)))))
    (ok_node
    (ok_node
    (ok_leaf (ok_iconst (show decode cX11_isBody 91 = .ok (.iconst 1, 1) by decide +kernel) (by decide +kernel)))
    (ok_leaf (ok_goto (show decode cX11_isBody 92 = .ok (.goto 4, 3) by decide +kernel) (by decide +kernel))))
    (ok_node
    (ok_leaf (ok_iconst (show decode cX11_isBody 95 = .ok (.iconst 0, 1) by decide +kernel) (by decide +kernel)))
    (ok_leaf (ok_zreturn (show decode cX11_isBody 96 = .ok (.ireturn, 1) by decide +kernel) rfl)))))))
set_option maxRecDepth 20000 in
set_option maxHeartbeats 4000000 in
theorem ok_X11_sizeOf {sc : List Int32} : ∀ pc, pOk mtOf 189 M_X11_sizeOf false sc pc (cd_X11_sizeOf pc) := by
  unfold cd_X11_sizeOf
  exact ok_node
    (ok_node
    (ok_node
    (ok_leaf (ok_iconst (show decode cX11_sizeOf 0 = .ok (.iconst 0, 1) by decide +kernel) (by decide +kernel)))
    (ok_node
    (ok_leaf (ok_istore_n (show decode cX11_sizeOf 1 = .ok (.istore_n 1, 1) by decide +kernel) rfl))
    (ok_leaf (ok_iload_n (show decode cX11_sizeOf 2 = .ok (.iload_n 0, 1) by decide +kernel) rfl))))
    (ok_node
    (ok_node
    (ok_leaf (ok_istore_n (show decode cX11_sizeOf 3 = .ok (.istore_n 2, 1) by decide +kernel) rfl))
    (ok_leaf (ok_iload_n (show decode cX11_sizeOf 4 = .ok (.iload_n 2, 1) by decide +kernel) rfl)))
    (ok_node
    (ok_leaf (ok_if_le (show decode cX11_sizeOf 5 = .ok (.ifCond .le 13, 3) by decide +kernel) (by decide +kernel)))
    (ok_leaf (ok_iinc (show decode cX11_sizeOf 8 = .ok (.iinc 1 1, 3) by decide +kernel) (by decide +kernel))))))
    (ok_node
    (ok_node
    (ok_leaf (ok_iload_n (show decode cX11_sizeOf 11 = .ok (.iload_n 2, 1) by decide +kernel) rfl))
    (ok_node
    (ok_leaf (ok_iconst (show decode cX11_sizeOf 12 = .ok (.iconst 3, 1) by decide +kernel) (by decide +kernel)))
    (ok_leaf (ok_ishr (show decode cX11_sizeOf 13 = .ok (.ishr, 1) by decide +kernel)))))
    (ok_node
    (ok_node
    (ok_leaf (ok_istore_n (show decode cX11_sizeOf 14 = .ok (.istore_n 2, 1) by decide +kernel) rfl))
    (ok_leaf (ok_goto (show decode cX11_sizeOf 15 = .ok (.goto (-11), 3) by decide +kernel) (by decide +kernel))))
    (ok_node
    (ok_leaf (ok_iload_n (show decode cX11_sizeOf 18 = .ok (.iload_n 1, 1) by decide +kernel) rfl))
    (ok_leaf (ok_ireturn (show decode cX11_sizeOf 19 = .ok (.ireturn, 1) by decide +kernel) rfl)))))
set_option maxRecDepth 20000 in
set_option maxHeartbeats 4000000 in
theorem ok_X11_byteOf {sc : List Int32} : ∀ pc, pOk mtOf 189 M_X11_byteOf false sc pc (cd_X11_byteOf pc) := by
  unfold cd_X11_byteOf
  exact ok_node
    (ok_node
    (ok_node
    (ok_leaf (ok_iload_n (show decode cX11_byteOf 0 = .ok (.iload_n 0, 1) by decide +kernel) rfl))
    (ok_node
    (ok_leaf (ok_table (show decode cX11_byteOf 1 = .ok (.tableswitch 50 1 5 #[35, 38, 41, 44, 47], 35) by decide +kernel) (by decide +kernel) (by decide +kernel) (by decide +kernel) (by decide +kernel)))
    (ok_leaf (ok_bipush (show decode cX11_byteOf 36 = .ok (.bipush 49, 2) by decide +kernel) (by decide +kernel)))))
    (ok_node
    (ok_node
    (ok_leaf (ok_ireturn (show decode cX11_byteOf 38 = .ok (.ireturn, 1) by decide +kernel) rfl))
    (ok_leaf (ok_bipush (show decode cX11_byteOf 39 = .ok (.bipush 50, 2) by decide +kernel) (by decide +kernel))))
    (ok_node
    (ok_leaf (ok_ireturn (show decode cX11_byteOf 41 = .ok (.ireturn, 1) by decide +kernel) rfl))
    (ok_leaf (ok_bipush (show decode cX11_byteOf 42 = .ok (.bipush 97, 2) by decide +kernel) (by decide +kernel))))))
    (ok_node
    (ok_node
    (ok_leaf (ok_ireturn (show decode cX11_byteOf 44 = .ok (.ireturn, 1) by decide +kernel) rfl))
    (ok_node
    (ok_leaf (ok_bipush (show decode cX11_byteOf 45 = .ok (.bipush 98, 2) by decide +kernel) (by decide +kernel)))
    (ok_leaf (ok_ireturn (show decode cX11_byteOf 47 = .ok (.ireturn, 1) by decide +kernel) rfl))))
    (ok_node
    (ok_node
    (ok_leaf (ok_bipush (show decode cX11_byteOf 48 = .ok (.bipush 102, 2) by decide +kernel) (by decide +kernel)))
    (ok_leaf (ok_ireturn (show decode cX11_byteOf 50 = .ok (.ireturn, 1) by decide +kernel) rfl)))
    (ok_node
    (ok_leaf (ok_bipush (show decode cX11_byteOf 51 = .ok (.bipush 103, 2) by decide +kernel) (by decide +kernel)))
    (ok_leaf (ok_ireturn (show decode cX11_byteOf 53 = .ok (.ireturn, 1) by decide +kernel) rfl)))))
set_option maxRecDepth 20000 in
set_option maxHeartbeats 4000000 in
theorem ok_X11_isFlex {sc : List Int32} : ∀ pc, pOk mtOf 189 M_X11_isFlex false sc pc (cd_X11_isFlex pc) := by
  unfold cd_X11_isFlex
  exact ok_node
    (ok_node
    (ok_leaf (ok_iload_n (show decode cX11_isFlex 0 = .ok (.iload_n 0, 1) by decide +kernel) rfl))
    (ok_leaf (ok_bipush (show decode cX11_isFlex 1 = .ok (.bipush 85, 2) by decide +kernel) (by decide +kernel))))
    (ok_node
    (ok_leaf (ok_bipush (show decode cX11_isFlex 3 = .ok (.bipush 90, 2) by decide +kernel) (by decide +kernel)))
    (ok_node
    (ok_leaf (ok_callS (Mc := M_X11_within) (show decode cX11_isFlex 5 = .ok (.invokestatic 82, 3) by decide +kernel) rfl (by decide) (by decide +kernel) wd_566 wd_567 wd_558 wd_568 ⟨by decide +kernel, by decide +kernel, by decide +kernel⟩ (by decide)))
    (ok_leaf (ok_zreturn (show decode cX11_isFlex 8 = .ok (.ireturn, 1) by decide +kernel) rfl))))
set_option maxRecDepth 20000 in
set_option maxHeartbeats 4000000 in
theorem ok_X11_partsOf {sc : List Int32} : ∀ pc, pOk mtOf 189 M_X11_partsOf false sc pc (cd_X11_partsOf pc) := by
  unfold cd_X11_partsOf
  exact ok_node
    (ok_node
    (ok_node
    (ok_node
    (ok_leaf (ok_iload_n (show decode cX11_partsOf 0 = .ok (.iload_n 0, 1) by decide +kernel) rfl))
    (ok_leaf (ok_callS (Mc := M_X11_isFlex) (show decode cX11_partsOf 1 = .ok (.invokestatic 85, 3) by decide +kernel) rfl (by decide) (by decide +kernel) wd_569 wd_570 wd_558 wd_571 ⟨by decide +kernel, by decide +kernel, by decide +kernel⟩ (by decide))))
    (ok_node
    (ok_leaf (ok_if_eq (show decode cX11_partsOf 4 = .ok (.ifCond .eq 10, 3) by decide +kernel) (by decide +kernel)))
    (ok_leaf (ok_iload_n (show decode cX11_partsOf 7 = .ok (.iload_n 0, 1) by decide +kernel) rfl))))
    (ok_node
    (ok_node
    (ok_leaf (ok_bipush (show decode cX11_partsOf 8 = .ok (.bipush 85, 2) by decide +kernel) (by decide +kernel)))
    (ok_leaf (ok_isub (show decode cX11_partsOf 10 = .ok (.isub, 1) by decide +kernel))))
    (ok_node
    (ok_leaf (ok_iconst (show decode cX11_partsOf 11 = .ok (.iconst 3, 1) by decide +kernel) (by decide +kernel)))
    (ok_node
    (ok_leaf (ok_irem (show decode cX11_partsOf 12 = .ok (.irem, 1) by decide +kernel)))
    (ok_leaf (ok_ireturn (show decode cX11_partsOf 13 = .ok (.ireturn, 1) by decide +kernel) rfl))))))
    (ok_node
    (ok_node
    (ok_node
    (ok_leaf (ok_iload_n (show decode cX11_partsOf 14 = .ok (.iload_n 0, 1) by decide +kernel) rfl))
    (ok_leaf (ok_lookup (show decode cX11_partsOf 15 = .ok (.lookupswitch 63 #[(49, 57), (50, 57), (97, 57), (98, 57), (102, 59), (103, 61)], 57) by decide +kernel) (by decide +kernel) (by decide +kernel) (by decide +kernel))))
    (ok_node
    (ok_leaf (ok_iconst (show decode cX11_partsOf 72 = .ok (.iconst 0, 1) by decide +kernel) (by decide +kernel)))
    (ok_node
    (ok_leaf (ok_ireturn (show decode cX11_partsOf 73 = .ok (.ireturn, 1) by decide +kernel) rfl))
    (ok_leaf (ok_iconst (show decode cX11_partsOf 74 = .ok (.iconst 1, 1) by decide +kernel) (by decide +kernel))))))
    (ok_node
    (ok_node
    (ok_leaf (ok_ireturn (show decode cX11_partsOf 75 = .ok (.ireturn, 1) by decide +kernel) rfl))
    (ok_leaf (ok_iconst (show decode cX11_partsOf 76 = .ok (.iconst 2, 1) by decide +kernel) (by decide +kernel))))
    (ok_node
    (ok_leaf (ok_ireturn (show decode cX11_partsOf 77 = .ok (.ireturn, 1) by decide +kernel) rfl))
    (ok_node
    (ok_leaf (ok_iconst (show decode cX11_partsOf 78 = .ok (.iconst (-1), 1) by decide +kernel) (by decide +kernel)))
    (ok_leaf (ok_ireturn (show decode cX11_partsOf 79 = .ok (.ireturn, 1) by decide +kernel) rfl))))))
set_option maxRecDepth 20000 in
set_option maxHeartbeats 4000000 in
theorem ok_X11_isLetter {sc : List Int32} : ∀ pc, pOk mtOf 189 M_X11_isLetter false sc pc (cd_X11_isLetter pc) := by
  unfold cd_X11_isLetter
  exact ok_node
    (ok_node
    (ok_node
    (ok_leaf (ok_iload_n (show decode cX11_isLetter 0 = .ok (.iload_n 0, 1) by decide +kernel) rfl))
    (ok_leaf (ok_bipush (show decode cX11_isLetter 1 = .ok (.bipush 50, 2) by decide +kernel) (by decide +kernel))))
    (ok_node
    (ok_leaf (ok_icmp_le (show decode cX11_isLetter 3 = .ok (.if_icmp .le 14, 3) by decide +kernel) (by decide +kernel)))
    (ok_node
    (ok_leaf (ok_iload_n (show decode cX11_isLetter 6 = .ok (.iload_n 0, 1) by decide +kernel) rfl))
    (ok_leaf (ok_callS (Mc := M_X11_partsOf) (show decode cX11_isLetter 7 = .ok (.invokestatic 89, 3) by decide +kernel) rfl (by decide) (by decide +kernel) wd_572 wd_573 wd_558 wd_574 ⟨by decide +kernel, by decide +kernel, by decide +kernel⟩ (by decide))))))
    (ok_node
    (ok_node
    (ok_leaf (ok_if_lt (show decode cX11_isLetter 10 = .ok (.ifCond .lt 7, 3) by decide +kernel) (by decide +kernel)))
    (ok_leaf (ok_iconst (show decode cX11_isLetter 13 = .ok (.iconst 1, 1) by decide +kernel) (by decide +kernel))))
    (ok_node
    (ok_leaf (ok_goto (show decode cX11_isLetter 14 = .ok (.goto 4, 3) by decide +kernel) (by decide +kernel)))
    (ok_node
    (ok_leaf (ok_iconst (show decode cX11_isLetter 17 = .ok (.iconst 0, 1) by decide +kernel) (by decide +kernel)))
    (ok_leaf (ok_zreturn (show decode cX11_isLetter 18 = .ok (.ireturn, 1) by decide +kernel) rfl)))))
set_option maxRecDepth 20000 in
set_option maxHeartbeats 4000000 in
theorem ok_X11_leaves {sc : List Int32} : ∀ pc, pOk mtOf 189 M_X11_leaves false sc pc (cd_X11_leaves pc) := by
  unfold cd_X11_leaves
  exact ok_node
    (ok_node
    (ok_node
    (ok_node
    (ok_node
    (ok_leaf (ok_aload_n (show decode cX11_leaves 0 = .ok (.aload_n 0, 1) by decide +kernel) rfl))
    (ok_node
    (ok_leaf (ok_getfield (show decode cX11_leaves 1 = .ok (.getfield 93, 3) by decide +kernel) (Or.inl (fd_X11 (by decide) wd_575 rfl rfl))))
    (ok_leaf (ok_iconst (show decode cX11_leaves 4 = .ok (.iconst 5, 1) by decide +kernel) (by decide +kernel)))))
    (ok_node
    (ok_leaf (ok_icmp_ne (show decode cX11_leaves 5 = .ok (.if_icmp .ne 43, 3) by decide +kernel) (by decide +kernel)))
    (ok_node
    (ok_leaf (ok_iconst (show decode cX11_leaves 8 = .ok (.iconst 0, 1) by decide +kernel) (by decide +kernel)))
    (ok_leaf (ok_istore_n (show decode cX11_leaves 9 = .ok (.istore_n 1, 1) by decide +kernel) rfl)))))
    (ok_node
    (ok_node
    (ok_leaf (ok_iload_n (show decode cX11_leaves 10 = .ok (.iload_n 1, 1) by decide +kernel) rfl))
    (ok_node
    (ok_leaf (ok_sipush (show decode cX11_leaves 11 = .ok (.sipush 196, 3) by decide +kernel) (by decide +kernel)))
    (ok_leaf (ok_icmp_ge (show decode cX11_leaves 14 = .ok (.if_icmp .ge 24, 3) by decide +kernel) (by decide +kernel)))))
    (ok_node
    (ok_node
    (ok_leaf (ok_aload_n (show decode cX11_leaves 17 = .ok (.aload_n 0, 1) by decide +kernel) rfl))
    (ok_leaf (ok_getfield (show decode cX11_leaves 18 = .ok (.getfield 16, 3) by decide +kernel) (Or.inr (fdF_X11 (by decide) wd_538 rfl rfl)))))
    (ok_node
    (ok_leaf (ok_iload_n (show decode cX11_leaves 21 = .ok (.iload_n 1, 1) by decide +kernel) rfl))
    (ok_leaf (ok_aload_n (show decode cX11_leaves 22 = .ok (.aload_n 0, 1) by decide +kernel) rfl))))))
    (ok_node
    (ok_node
    (ok_node
    (ok_leaf (ok_getfield (show decode cX11_leaves 23 = .ok (.getfield 16, 3) by decide +kernel) (Or.inr (fdF_X11 (by decide) wd_538 rfl rfl))))
    (ok_node
    (ok_leaf (ok_iload_n (show decode cX11_leaves 26 = .ok (.iload_n 1, 1) by decide +kernel) rfl))
    (ok_leaf (ok_bipush (show decode cX11_leaves 27 = .ok (.bipush 49, 2) by decide +kernel) (by decide +kernel)))))
    (ok_node
    (ok_node
    (ok_leaf (ok_iadd (show decode cX11_leaves 29 = .ok (.iadd, 1) by decide +kernel)))
    (ok_leaf (ok_iaload (show decode cX11_leaves 30 = .ok (.iaload, 1) by decide +kernel))))
    (ok_node
    (ok_leaf (ok_iastore (show decode cX11_leaves 31 = .ok (.iastore, 1) by decide +kernel)))
    (ok_leaf (ok_iinc (show decode cX11_leaves 32 = .ok (.iinc 1 1, 3) by decide +kernel) (by decide +kernel))))))
    (ok_node
    (ok_node
    (ok_leaf (ok_goto (show decode cX11_leaves 35 = .ok (.goto (-25), 3) by decide +kernel) (by decide +kernel)))
    (ok_node
    (ok_leaf (ok_aload_n (show decode cX11_leaves 38 = .ok (.aload_n 0, 1) by decide +kernel) rfl))
    (ok_leaf (ok_dup (show decode cX11_leaves 39 = .ok (.dup, 1) by decide +kernel)))))
    (ok_node
    (ok_node
    (ok_leaf (ok_getfield (show decode cX11_leaves 40 = .ok (.getfield 93, 3) by decide +kernel) (Or.inl (fd_X11 (by decide) wd_575 rfl rfl))))
    (ok_leaf (ok_iconst (show decode cX11_leaves 43 = .ok (.iconst 1, 1) by decide +kernel) (by decide +kernel))))
    (ok_node
    (ok_leaf (ok_isub (show decode cX11_leaves 44 = .ok (.isub, 1) by decide +kernel)))
    (ok_leaf (ok_putI (show decode cX11_leaves 45 = .ok (.putfield 93, 3) by decide +kernel) (Or.inl (fd_X11 (by decide) wd_575 rfl rfl)) rfl)))))))
    (ok_node
    (ok_node
    (ok_node
    (ok_node
    (ok_leaf (ok_iconst (show decode cX11_leaves 48 = .ok (.iconst 0, 1) by decide +kernel) (by decide +kernel)))
    (ok_node
    (ok_leaf (ok_istore_n (show decode cX11_leaves 49 = .ok (.istore_n 1, 1) by decide +kernel) rfl))
    (ok_leaf (ok_iload_n (show decode cX11_leaves 50 = .ok (.iload_n 1, 1) by decide +kernel) rfl))))
    (ok_node
    (ok_leaf (ok_bipush (show decode cX11_leaves 51 = .ok (.bipush 49, 2) by decide +kernel) (by decide +kernel)))
    (ok_node
    (ok_leaf (ok_icmp_ge (show decode cX11_leaves 53 = .ok (.if_icmp .ge 29, 3) by decide +kernel) (by decide +kernel)))
    (ok_leaf (ok_aload_n (show decode cX11_leaves 56 = .ok (.aload_n 0, 1) by decide +kernel) rfl)))))
    (ok_node
    (ok_node
    (ok_leaf (ok_getfield (show decode cX11_leaves 57 = .ok (.getfield 16, 3) by decide +kernel) (Or.inr (fdF_X11 (by decide) wd_538 rfl rfl))))
    (ok_node
    (ok_leaf (ok_bipush (show decode cX11_leaves 60 = .ok (.bipush 49, 2) by decide +kernel) (by decide +kernel)))
    (ok_leaf (ok_aload_n (show decode cX11_leaves 62 = .ok (.aload_n 0, 1) by decide +kernel) rfl))))
    (ok_node
    (ok_node
    (ok_leaf (ok_getfield (show decode cX11_leaves 63 = .ok (.getfield 93, 3) by decide +kernel) (Or.inl (fd_X11 (by decide) wd_575 rfl rfl))))
    (ok_leaf (ok_imul (show decode cX11_leaves 66 = .ok (.imul, 1) by decide +kernel))))
    (ok_node
    (ok_leaf (ok_iload_n (show decode cX11_leaves 67 = .ok (.iload_n 1, 1) by decide +kernel) rfl))
    (ok_leaf (ok_iadd (show decode cX11_leaves 68 = .ok (.iadd, 1) by decide +kernel)))))))
    (ok_node
    (ok_node
    (ok_node
    (ok_leaf (ok_aload_n (show decode cX11_leaves 69 = .ok (.aload_n 0, 1) by decide +kernel) rfl))
    (ok_node
    (ok_leaf (ok_getfield (show decode cX11_leaves 70 = .ok (.getfield 7, 3) by decide +kernel) (Or.inr (fdF_X11 (by decide) wd_536 rfl rfl))))
    (ok_leaf (ok_iload_n (show decode cX11_leaves 73 = .ok (.iload_n 1, 1) by decide +kernel) rfl))))
    (ok_node
    (ok_node
    (ok_leaf (ok_iaload (show decode cX11_leaves 74 = .ok (.iaload, 1) by decide +kernel)))
    (ok_leaf (ok_iastore (show decode cX11_leaves 75 = .ok (.iastore, 1) by decide +kernel))))
    (ok_node
    (ok_leaf (ok_iinc (show decode cX11_leaves 76 = .ok (.iinc 1 1, 3) by decide +kernel) (by decide +kernel)))
    (ok_leaf (ok_goto (show decode cX11_leaves 79 = .ok (.goto (-29), 3) by decide +kernel) (by decide +kernel))))))
    (ok_node
    (ok_node
    (ok_leaf (ok_aload_n (show decode cX11_leaves 82 = .ok (.aload_n 0, 1) by decide +kernel) rfl))
    (ok_node
    (ok_leaf (ok_dup (show decode cX11_leaves 83 = .ok (.dup, 1) by decide +kernel)))
    (ok_leaf (ok_getfield (show decode cX11_leaves 84 = .ok (.getfield 93, 3) by decide +kernel) (Or.inl (fd_X11 (by decide) wd_575 rfl rfl))))))
    (ok_node
    (ok_node
    (ok_leaf (ok_iconst (show decode cX11_leaves 87 = .ok (.iconst 1, 1) by decide +kernel) (by decide +kernel)))
    (ok_leaf (ok_iadd (show decode cX11_leaves 88 = .ok (.iadd, 1) by decide +kernel))))
    (ok_node
    (ok_leaf (ok_putI (show decode cX11_leaves 89 = .ok (.putfield 93, 3) by decide +kernel) (Or.inl (fd_X11 (by decide) wd_575 rfl rfl)) rfl))
    (ok_leaf (ok_return (show decode cX11_leaves 92 = .ok (.return_, 1) by decide +kernel) rfl)))))))
set_option maxRecDepth 20000 in
set_option maxHeartbeats 4000000 in
theorem ok_X11_back {sc : List Int32} : ∀ pc, pOk mtOf 189 M_X11_back false sc pc (cd_X11_back pc) := by
  unfold cd_X11_back
  exact ok_node
    (ok_node
    (ok_node
    (ok_node
    (ok_node
    (ok_leaf (ok_aload_n (show decode cX11_back 0 = .ok (.aload_n 0, 1) by decide +kernel) rfl))
    (ok_leaf (ok_getfield (show decode cX11_back 1 = .ok (.getfield 93, 3) by decide +kernel) (Or.inl (fd_X11 (by decide) wd_575 rfl rfl)))))
    (ok_node
    (ok_leaf (ok_if_ne (show decode cX11_back 4 = .ok (.ifCond .ne 8, 3) by decide +kernel) (by decide +kernel)))
    (ok_leaf (ok_aload_n (show decode cX11_back 7 = .ok (.aload_n 0, 1) by decide +kernel) rfl))))
    (ok_node
    (ok_node
    (ok_leaf (ok_callV (C := RX11) (T := TX11) (N := 31) (Mc := M_X11_no) (show decode cX11_back 8 = .ok (.invokevirtual 97, 3) by decide +kernel) rfl (by decide) (by decide +kernel) rfl rfl wd_576 wd_577 wd_578 wd_558 wd_579 ⟨by decide +kernel, by decide +kernel, by decide +kernel⟩ (by decide)))
    (ok_leaf (ok_ireturn (show decode cX11_back 11 = .ok (.ireturn, 1) by decide +kernel) rfl)))
    (ok_node
    (ok_leaf (ok_aload_n (show decode cX11_back 12 = .ok (.aload_n 0, 1) by decide +kernel) rfl))
    (ok_leaf (ok_dup (show decode cX11_back 13 = .ok (.dup, 1) by decide +kernel))))))
    (ok_node
    (ok_node
    (ok_node
    (ok_leaf (ok_getfield (show decode cX11_back 14 = .ok (.getfield 93, 3) by decide +kernel) (Or.inl (fd_X11 (by decide) wd_575 rfl rfl))))
    (ok_leaf (ok_iconst (show decode cX11_back 17 = .ok (.iconst 1, 1) by decide +kernel) (by decide +kernel))))
    (ok_node
    (ok_leaf (ok_isub (show decode cX11_back 18 = .ok (.isub, 1) by decide +kernel)))
    (ok_leaf (ok_putI (show decode cX11_back 19 = .ok (.putfield 93, 3) by decide +kernel) (Or.inl (fd_X11 (by decide) wd_575 rfl rfl)) rfl))))
    (ok_node
    (ok_node
    (ok_leaf (ok_iconst (show decode cX11_back 22 = .ok (.iconst 0, 1) by decide +kernel) (by decide +kernel)))
    (ok_leaf (ok_istore_n (show decode cX11_back 23 = .ok (.istore_n 1, 1) by decide +kernel) rfl)))
    (ok_node
    (ok_leaf (ok_iload_n (show decode cX11_back 24 = .ok (.iload_n 1, 1) by decide +kernel) rfl))
    (ok_node
    (ok_leaf (ok_bipush (show decode cX11_back 25 = .ok (.bipush 49, 2) by decide +kernel) (by decide +kernel)))
    (ok_leaf (ok_icmp_ge (show decode cX11_back 27 = .ok (.if_icmp .ge 29, 3) by decide +kernel) (by decide +kernel))))))))
    (ok_node
    (ok_node
    (ok_node
    (ok_node
    (ok_leaf (ok_aload_n (show decode cX11_back 30 = .ok (.aload_n 0, 1) by decide +kernel) rfl))
    (ok_leaf (ok_getfield (show decode cX11_back 31 = .ok (.getfield 7, 3) by decide +kernel) (Or.inr (fdF_X11 (by decide) wd_536 rfl rfl)))))
    (ok_node
    (ok_leaf (ok_iload_n (show decode cX11_back 34 = .ok (.iload_n 1, 1) by decide +kernel) rfl))
    (ok_leaf (ok_aload_n (show decode cX11_back 35 = .ok (.aload_n 0, 1) by decide +kernel) rfl))))
    (ok_node
    (ok_node
    (ok_leaf (ok_getfield (show decode cX11_back 36 = .ok (.getfield 16, 3) by decide +kernel) (Or.inr (fdF_X11 (by decide) wd_538 rfl rfl))))
    (ok_leaf (ok_bipush (show decode cX11_back 39 = .ok (.bipush 49, 2) by decide +kernel) (by decide +kernel))))
    (ok_node
    (ok_leaf (ok_aload_n (show decode cX11_back 41 = .ok (.aload_n 0, 1) by decide +kernel) rfl))
    (ok_node
    (ok_leaf (ok_getfield (show decode cX11_back 42 = .ok (.getfield 93, 3) by decide +kernel) (Or.inl (fd_X11 (by decide) wd_575 rfl rfl))))
    (ok_leaf (ok_imul (show decode cX11_back 45 = .ok (.imul, 1) by decide +kernel)))))))
    (ok_node
    (ok_node
    (ok_node
    (ok_leaf (ok_iload_n (show decode cX11_back 46 = .ok (.iload_n 1, 1) by decide +kernel) rfl))
    (ok_leaf (ok_iadd (show decode cX11_back 47 = .ok (.iadd, 1) by decide +kernel))))
    (ok_node
    (ok_leaf (ok_iaload (show decode cX11_back 48 = .ok (.iaload, 1) by decide +kernel)))
    (ok_leaf (ok_iastore (show decode cX11_back 49 = .ok (.iastore, 1) by decide +kernel)))))
    (ok_node
    (ok_node
    (ok_leaf (ok_iinc (show decode cX11_back 50 = .ok (.iinc 1 1, 3) by decide +kernel) (by decide +kernel)))
    (ok_leaf (ok_goto (show decode cX11_back 53 = .ok (.goto (-29), 3) by decide +kernel) (by decide +kernel))))
    (ok_node
    (ok_leaf (ok_aload_n (show decode cX11_back 56 = .ok (.aload_n 0, 1) by decide +kernel) rfl))
    (ok_node
    (ok_leaf (ok_getfield (show decode cX11_back 57 = .ok (.getfield 93, 3) by decide +kernel) (Or.inl (fd_X11 (by decide) wd_575 rfl rfl))))
    (ok_leaf (ok_ireturn (show decode cX11_back 60 = .ok (.ireturn, 1) by decide +kernel) rfl)))))))
set_option maxRecDepth 20000 in
set_option maxHeartbeats 4000000 in
theorem ok_X11_type {sc : List Int32} : ∀ pc, pOk mtOf 189 M_X11_type false sc pc (cd_X11_type pc) := by
  unfold cd_X11_type
  exact ok_node
    (ok_node
    (ok_node
    (ok_node
    (ok_leaf (ok_iload_n (show decode cX11_type 0 = .ok (.iload_n 1, 1) by decide +kernel) rfl))
    (ok_node
    (ok_leaf (ok_iconst (show decode cX11_type 1 = .ok (.iconst 0, 1) by decide +kernel) (by decide +kernel)))
    (ok_leaf (ok_bipush (show decode cX11_type 2 = .ok (.bipush 127, 2) by decide +kernel) (by decide +kernel)))))
    (ok_node
    (ok_node
    (ok_leaf (ok_callS (Mc := M_X11_within) (show decode cX11_type 4 = .ok (.invokestatic 82, 3) by decide +kernel) rfl (by decide) (by decide +kernel) wd_566 wd_567 wd_558 wd_568 ⟨by decide +kernel, by decide +kernel, by decide +kernel⟩ (by decide)))
    (ok_leaf (ok_if_ne (show decode cX11_type 7 = .ok (.ifCond .ne 8, 3) by decide +kernel) (by decide +kernel))))
    (ok_node
    (ok_leaf (ok_aload_n (show decode cX11_type 10 = .ok (.aload_n 0, 1) by decide +kernel) rfl))
    (ok_leaf (ok_callV (C := RX11) (T := TX11) (N := 31) (Mc := M_X11_bad) (show decode cX11_type 11 = .ok (.invokevirtual 101, 3) by decide +kernel) rfl (by decide) (by decide +kernel) rfl rfl wd_580 wd_581 wd_582 wd_558 wd_583 ⟨by decide +kernel, by decide +kernel, by decide +kernel⟩ (by decide))))))
    (ok_node
    (ok_node
    (ok_node
    (ok_leaf (ok_ireturn (show decode cX11_type 14 = .ok (.ireturn, 1) by decide +kernel) rfl))
    (ok_leaf (ok_aload_n (show decode cX11_type 15 = .ok (.aload_n 0, 1) by decide +kernel) rfl)))
    (ok_node
    (ok_leaf (ok_getfield (show decode cX11_type 16 = .ok (.getfield 104, 3) by decide +kernel) (Or.inl (fd_X11 (by decide) wd_584 rfl rfl))))
    (ok_leaf (ok_bipush (show decode cX11_type 19 = .ok (.bipush 120, 2) by decide +kernel) (by decide +kernel)))))
    (ok_node
    (ok_node
    (ok_leaf (ok_icmp_ne (show decode cX11_type 21 = .ok (.if_icmp .ne 8, 3) by decide +kernel) (by decide +kernel)))
    (ok_leaf (ok_aload_n (show decode cX11_type 24 = .ok (.aload_n 0, 1) by decide +kernel) rfl)))
    (ok_node
    (ok_leaf (ok_callV (C := RX11) (T := TX11) (N := 31) (Mc := M_X11_full) (show decode cX11_type 25 = .ok (.invokevirtual 107, 3) by decide +kernel) rfl (by decide) (by decide +kernel) rfl rfl wd_585 wd_586 wd_587 wd_558 wd_588 ⟨by decide +kernel, by decide +kernel, by decide +kernel⟩ (by decide)))
    (ok_leaf (ok_ireturn (show decode cX11_type 28 = .ok (.ireturn, 1) by decide +kernel) rfl))))))
    (ok_node
    (ok_node
    (ok_node
    (ok_leaf (ok_aload_n (show decode cX11_type 29 = .ok (.aload_n 0, 1) by decide +kernel) rfl))
    (ok_node
    (ok_leaf (ok_getfield (show decode cX11_type 30 = .ok (.getfield 22, 3) by decide +kernel) (Or.inr (fdF_X11 (by decide) wd_540 rfl rfl))))
    (ok_leaf (ok_aload_n (show decode cX11_type 33 = .ok (.aload_n 0, 1) by decide +kernel) rfl))))
    (ok_node
    (ok_node
    (ok_leaf (ok_getfield (show decode cX11_type 34 = .ok (.getfield 104, 3) by decide +kernel) (Or.inl (fd_X11 (by decide) wd_584 rfl rfl))))
    (ok_leaf (ok_iload_n (show decode cX11_type 37 = .ok (.iload_n 1, 1) by decide +kernel) rfl)))
    (ok_node
    (ok_leaf (ok_iastore (show decode cX11_type 38 = .ok (.iastore, 1) by decide +kernel)))
    (ok_leaf (ok_aload_n (show decode cX11_type 39 = .ok (.aload_n 0, 1) by decide +kernel) rfl)))))
    (ok_node
    (ok_node
    (ok_node
    (ok_leaf (ok_dup (show decode cX11_type 40 = .ok (.dup, 1) by decide +kernel)))
    (ok_leaf (ok_getfield (show decode cX11_type 41 = .ok (.getfield 104, 3) by decide +kernel) (Or.inl (fd_X11 (by decide) wd_584 rfl rfl)))))
    (ok_node
    (ok_leaf (ok_iconst (show decode cX11_type 44 = .ok (.iconst 1, 1) by decide +kernel) (by decide +kernel)))
    (ok_leaf (ok_iadd (show decode cX11_type 45 = .ok (.iadd, 1) by decide +kernel)))))
    (ok_node
    (ok_node
    (ok_leaf (ok_putI (show decode cX11_type 46 = .ok (.putfield 104, 3) by decide +kernel) (Or.inl (fd_X11 (by decide) wd_584 rfl rfl)) rfl))
    (ok_leaf (ok_aload_n (show decode cX11_type 49 = .ok (.aload_n 0, 1) by decide +kernel) rfl)))
    (ok_node
    (ok_leaf (ok_getfield (show decode cX11_type 50 = .ok (.getfield 104, 3) by decide +kernel) (Or.inl (fd_X11 (by decide) wd_584 rfl rfl))))
    (ok_leaf (ok_ireturn (show decode cX11_type 53 = .ok (.ireturn, 1) by decide +kernel) rfl))))))
set_option maxRecDepth 20000 in
set_option maxHeartbeats 4000000 in
theorem ok_X11_clear {sc : List Int32} : ∀ pc, pOk mtOf 189 M_X11_clear false sc pc (cd_X11_clear pc) := by
  unfold cd_X11_clear
  exact ok_node
    (ok_node
    (ok_node
    (ok_leaf (ok_aload_n (show decode cX11_clear 0 = .ok (.aload_n 0, 1) by decide +kernel) rfl))
    (ok_leaf (ok_getfield (show decode cX11_clear 1 = .ok (.getfield 104, 3) by decide +kernel) (Or.inl (fd_X11 (by decide) wd_584 rfl rfl)))))
    (ok_node
    (ok_leaf (ok_istore_n (show decode cX11_clear 4 = .ok (.istore_n 1, 1) by decide +kernel) rfl))
    (ok_leaf (ok_aload_n (show decode cX11_clear 5 = .ok (.aload_n 0, 1) by decide +kernel) rfl))))
    (ok_node
    (ok_node
    (ok_leaf (ok_iconst (show decode cX11_clear 6 = .ok (.iconst 0, 1) by decide +kernel) (by decide +kernel)))
    (ok_leaf (ok_putI (show decode cX11_clear 7 = .ok (.putfield 104, 3) by decide +kernel) (Or.inl (fd_X11 (by decide) wd_584 rfl rfl)) rfl)))
    (ok_node
    (ok_leaf (ok_iload_n (show decode cX11_clear 10 = .ok (.iload_n 1, 1) by decide +kernel) rfl))
    (ok_leaf (ok_ireturn (show decode cX11_clear 11 = .ok (.ireturn, 1) by decide +kernel) rfl))))
set_option maxRecDepth 20000 in
set_option maxHeartbeats 4000000 in
theorem ok_X11_blanks {sc : List Int32} : ∀ pc, pOk mtOf 189 M_X11_blanks false sc pc (cd_X11_blanks pc) := by
  unfold cd_X11_blanks
  exact ok_node
    (ok_node
    (ok_node
    (ok_node
    (ok_leaf (ok_aload_n (show decode cX11_blanks 0 = .ok (.aload_n 0, 1) by decide +kernel) rfl))
    (ok_leaf (ok_getfield (show decode cX11_blanks 1 = .ok (.getfield 110, 3) by decide +kernel) (Or.inl (fd_X11 (by decide) wd_589 rfl rfl)))))
    (ok_node
    (ok_leaf (ok_aload_n (show decode cX11_blanks 4 = .ok (.aload_n 0, 1) by decide +kernel) rfl))
    (ok_node
    (ok_leaf (ok_getfield (show decode cX11_blanks 5 = .ok (.getfield 104, 3) by decide +kernel) (Or.inl (fd_X11 (by decide) wd_584 rfl rfl))))
    (ok_leaf (ok_icmp_ge (show decode cX11_blanks 8 = .ok (.if_icmp .ge 30, 3) by decide +kernel) (by decide +kernel))))))
    (ok_node
    (ok_node
    (ok_leaf (ok_aload_n (show decode cX11_blanks 11 = .ok (.aload_n 0, 1) by decide +kernel) rfl))
    (ok_leaf (ok_getfield (show decode cX11_blanks 12 = .ok (.getfield 22, 3) by decide +kernel) (Or.inr (fdF_X11 (by decide) wd_540 rfl rfl)))))
    (ok_node
    (ok_leaf (ok_aload_n (show decode cX11_blanks 15 = .ok (.aload_n 0, 1) by decide +kernel) rfl))
    (ok_node
    (ok_leaf (ok_getfield (show decode cX11_blanks 16 = .ok (.getfield 110, 3) by decide +kernel) (Or.inl (fd_X11 (by decide) wd_589 rfl rfl))))
    (ok_leaf (ok_iaload (show decode cX11_blanks 19 = .ok (.iaload, 1) by decide +kernel)))))))
    (ok_node
    (ok_node
    (ok_node
    (ok_leaf (ok_bipush (show decode cX11_blanks 20 = .ok (.bipush 32, 2) by decide +kernel) (by decide +kernel)))
    (ok_leaf (ok_icmp_ne (show decode cX11_blanks 22 = .ok (.if_icmp .ne 16, 3) by decide +kernel) (by decide +kernel))))
    (ok_node
    (ok_leaf (ok_aload_n (show decode cX11_blanks 25 = .ok (.aload_n 0, 1) by decide +kernel) rfl))
    (ok_node
    (ok_leaf (ok_dup (show decode cX11_blanks 26 = .ok (.dup, 1) by decide +kernel)))
    (ok_leaf (ok_getfield (show decode cX11_blanks 27 = .ok (.getfield 110, 3) by decide +kernel) (Or.inl (fd_X11 (by decide) wd_589 rfl rfl)))))))
    (ok_node
    (ok_node
    (ok_leaf (ok_iconst (show decode cX11_blanks 30 = .ok (.iconst 1, 1) by decide +kernel) (by decide +kernel)))
    (ok_leaf (ok_iadd (show decode cX11_blanks 31 = .ok (.iadd, 1) by decide +kernel))))
    (ok_node
    (ok_leaf (ok_putI (show decode cX11_blanks 32 = .ok (.putfield 110, 3) by decide +kernel) (Or.inl (fd_X11 (by decide) wd_589 rfl rfl)) rfl))
    (ok_node
    (ok_leaf (ok_goto (show decode cX11_blanks 35 = .ok (.goto (-35), 3) by decide +kernel) (by decide +kernel)))
    (ok_leaf (ok_return (show decode cX11_blanks 38 = .ok (.return_, 1) by decide +kernel) rfl))))))
set_option maxRecDepth 20000 in
set_option maxHeartbeats 4000000 in
theorem ok_X11_passes {sc : List Int32} : ∀ pc, pOk mtOf 189 M_X11_passes false sc pc (cd_X11_passes pc) := by
  unfold cd_X11_passes
  exact ok_node
    (ok_node
    (ok_node
    (ok_node
    (ok_leaf (ok_aload_n (show decode cX11_passes 0 = .ok (.aload_n 0, 1) by decide +kernel) rfl))
    (ok_node
    (ok_leaf (ok_callV (C := RX11) (T := TX11) (N := 31) (Mc := M_X11_blanks) (show decode cX11_passes 1 = .ok (.invokevirtual 113, 3) by decide +kernel) rfl (by decide) (by decide +kernel) rfl rfl wd_590 wd_591 wd_592 wd_558 wd_593 ⟨by decide +kernel, by decide +kernel, by decide +kernel⟩ (by decide)))
    (ok_leaf (ok_aload_n (show decode cX11_passes 4 = .ok (.aload_n 0, 1) by decide +kernel) rfl))))
    (ok_node
    (ok_node
    (ok_leaf (ok_getfield (show decode cX11_passes 5 = .ok (.getfield 110, 3) by decide +kernel) (Or.inl (fd_X11 (by decide) wd_589 rfl rfl))))
    (ok_leaf (ok_aload_n (show decode cX11_passes 8 = .ok (.aload_n 0, 1) by decide +kernel) rfl)))
    (ok_node
    (ok_leaf (ok_getfield (show decode cX11_passes 9 = .ok (.getfield 104, 3) by decide +kernel) (Or.inl (fd_X11 (by decide) wd_584 rfl rfl))))
    (ok_leaf (ok_icmp_ge (show decode cX11_passes 12 = .ok (.if_icmp .ge 20, 3) by decide +kernel) (by decide +kernel))))))
    (ok_node
    (ok_node
    (ok_node
    (ok_leaf (ok_aload_n (show decode cX11_passes 15 = .ok (.aload_n 0, 1) by decide +kernel) rfl))
    (ok_leaf (ok_getfield (show decode cX11_passes 16 = .ok (.getfield 22, 3) by decide +kernel) (Or.inr (fdF_X11 (by decide) wd_540 rfl rfl)))))
    (ok_node
    (ok_leaf (ok_aload_n (show decode cX11_passes 19 = .ok (.aload_n 0, 1) by decide +kernel) rfl))
    (ok_leaf (ok_getfield (show decode cX11_passes 20 = .ok (.getfield 110, 3) by decide +kernel) (Or.inl (fd_X11 (by decide) wd_589 rfl rfl))))))
    (ok_node
    (ok_node
    (ok_leaf (ok_iaload (show decode cX11_passes 23 = .ok (.iaload, 1) by decide +kernel)))
    (ok_leaf (ok_iload_n (show decode cX11_passes 24 = .ok (.iload_n 1, 1) by decide +kernel) rfl)))
    (ok_node
    (ok_leaf (ok_icmp_ne (show decode cX11_passes 25 = .ok (.if_icmp .ne 7, 3) by decide +kernel) (by decide +kernel)))
    (ok_leaf (ok_iconst (show decode cX11_passes 28 = .ok (.iconst 1, 1) by decide +kernel) (by decide +kernel)))))))
    (ok_node
    (ok_node
    (ok_node
    (ok_leaf (ok_goto (show decode cX11_passes 29 = .ok (.goto 4, 3) by decide +kernel) (by decide +kernel)))
    (ok_node
    (ok_leaf (ok_iconst (show decode cX11_passes 32 = .ok (.iconst 0, 1) by decide +kernel) (by decide +kernel)))
    (ok_leaf (ok_istore_n (show decode cX11_passes 33 = .ok (.istore_n 2, 1) by decide +kernel) rfl))))
    (ok_node
    (ok_node
    (ok_leaf (ok_aload_n (show decode cX11_passes 34 = .ok (.aload_n 0, 1) by decide +kernel) rfl))
    (ok_leaf (ok_dup (show decode cX11_passes 35 = .ok (.dup, 1) by decide +kernel))))
    (ok_node
    (ok_leaf (ok_getfield (show decode cX11_passes 36 = .ok (.getfield 110, 3) by decide +kernel) (Or.inl (fd_X11 (by decide) wd_589 rfl rfl))))
    (ok_leaf (ok_iload_n (show decode cX11_passes 39 = .ok (.iload_n 2, 1) by decide +kernel) rfl)))))
    (ok_node
    (ok_node
    (ok_node
    (ok_leaf (ok_if_eq (show decode cX11_passes 40 = .ok (.ifCond .eq 7, 3) by decide +kernel) (by decide +kernel)))
    (ok_leaf (ok_iconst (show decode cX11_passes 43 = .ok (.iconst 1, 1) by decide +kernel) (by decide +kernel))))
    (ok_node
    (ok_leaf (ok_goto (show decode cX11_passes 44 = .ok (.goto 4, 3) by decide +kernel) (by decide +kernel)))
    (ok_leaf (ok_iconst (show decode cX11_passes 47 = .ok (.iconst 0, 1) by decide +kernel) (by decide +kernel)))))
    (ok_node
    (ok_node
    (ok_leaf (ok_iadd (show decode cX11_passes 48 = .ok (.iadd, 1) by decide +kernel)))
    (ok_leaf (ok_putI (show decode cX11_passes 49 = .ok (.putfield 110, 3) by decide +kernel) (Or.inl (fd_X11 (by decide) wd_589 rfl rfl)) rfl)))
    (ok_node
    (ok_leaf (ok_iload_n (show decode cX11_passes 52 = .ok (.iload_n 2, 1) by decide +kernel) rfl))
    (ok_leaf (ok_zreturn (show decode cX11_passes 53 = .ok (.ireturn, 1) by decide +kernel) rfl))))))
set_option maxRecDepth 20000 in
set_option maxHeartbeats 4000000 in
theorem ok_X11_letterPassed {sc : List Int32} : ∀ pc, pOk mtOf 189 M_X11_letterPassed false sc pc (cd_X11_letterPassed pc) := by
  unfold cd_X11_letterPassed
  exact ok_node
    (ok_node
    (ok_node
    (ok_node
    (ok_node
    (ok_leaf (ok_aload_n (show decode cX11_letterPassed 0 = .ok (.aload_n 0, 1) by decide +kernel) rfl))
    (ok_node
    (ok_leaf (ok_callV (C := RX11) (T := TX11) (N := 31) (Mc := M_X11_blanks) (show decode cX11_letterPassed 1 = .ok (.invokevirtual 113, 3) by decide +kernel) rfl (by decide) (by decide +kernel) rfl rfl wd_590 wd_591 wd_592 wd_558 wd_593 ⟨by decide +kernel, by decide +kernel, by decide +kernel⟩ (by decide)))
    (ok_leaf (ok_aload_n (show decode cX11_letterPassed 4 = .ok (.aload_n 0, 1) by decide +kernel) rfl))))
    (ok_node
    (ok_leaf (ok_getfield (show decode cX11_letterPassed 5 = .ok (.getfield 110, 3) by decide +kernel) (Or.inl (fd_X11 (by decide) wd_589 rfl rfl))))
    (ok_node
    (ok_leaf (ok_aload_n (show decode cX11_letterPassed 8 = .ok (.aload_n 0, 1) by decide +kernel) rfl))
    (ok_leaf (ok_getfield (show decode cX11_letterPassed 9 = .ok (.getfield 104, 3) by decide +kernel) (Or.inl (fd_X11 (by decide) wd_584 rfl rfl)))))))
    (ok_node
    (ok_node
    (ok_leaf (ok_icmp_eq (show decode cX11_letterPassed 12 = .ok (.if_icmp .eq 27, 3) by decide +kernel) (by decide +kernel)))
    (ok_node
    (ok_leaf (ok_aload_n (show decode cX11_letterPassed 15 = .ok (.aload_n 0, 1) by decide +kernel) rfl))
    (ok_leaf (ok_getfield (show decode cX11_letterPassed 16 = .ok (.getfield 22, 3) by decide +kernel) (Or.inr (fdF_X11 (by decide) wd_540 rfl rfl))))))
    (ok_node
    (ok_node
    (ok_leaf (ok_aload_n (show decode cX11_letterPassed 19 = .ok (.aload_n 0, 1) by decide +kernel) rfl))
    (ok_leaf (ok_getfield (show decode cX11_letterPassed 20 = .ok (.getfield 110, 3) by decide +kernel) (Or.inl (fd_X11 (by decide) wd_589 rfl rfl)))))
    (ok_node
    (ok_leaf (ok_iaload (show decode cX11_letterPassed 23 = .ok (.iaload, 1) by decide +kernel)))
    (ok_leaf (ok_callS (Mc := M_X11_isLetter) (show decode cX11_letterPassed 24 = .ok (.invokestatic 116, 3) by decide +kernel) rfl (by decide) (by decide +kernel) wd_594 wd_595 wd_558 wd_596 ⟨by decide +kernel, by decide +kernel, by decide +kernel⟩ (by decide)))))))
    (ok_node
    (ok_node
    (ok_node
    (ok_leaf (ok_if_eq (show decode cX11_letterPassed 27 = .ok (.ifCond .eq 12, 3) by decide +kernel) (by decide +kernel)))
    (ok_node
    (ok_leaf (ok_aload_n (show decode cX11_letterPassed 30 = .ok (.aload_n 0, 1) by decide +kernel) rfl))
    (ok_leaf (ok_getfield (show decode cX11_letterPassed 31 = .ok (.getfield 119, 3) by decide +kernel) (Or.inl (fd_X11 (by decide) wd_597 rfl rfl))))))
    (ok_node
    (ok_leaf (ok_bipush (show decode cX11_letterPassed 34 = .ok (.bipush 40, 2) by decide +kernel) (by decide +kernel)))
    (ok_node
    (ok_leaf (ok_icmp_ne (show decode cX11_letterPassed 36 = .ok (.if_icmp .ne 5, 3) by decide +kernel) (by decide +kernel)))
    (ok_leaf (ok_iconst (show decode cX11_letterPassed 39 = .ok (.iconst (-1), 1) by decide +kernel) (by decide +kernel))))))
    (ok_node
    (ok_node
    (ok_leaf (ok_ireturn (show decode cX11_letterPassed 40 = .ok (.ireturn, 1) by decide +kernel) rfl))
    (ok_node
    (ok_leaf (ok_aload_n (show decode cX11_letterPassed 41 = .ok (.aload_n 0, 1) by decide +kernel) rfl))
    (ok_leaf (ok_getfield (show decode cX11_letterPassed 42 = .ok (.getfield 13, 3) by decide +kernel) (Or.inr (fdF_X11 (by decide) wd_537 rfl rfl))))))
    (ok_node
    (ok_node
    (ok_leaf (ok_bipush (show decode cX11_letterPassed 45 = .ok (.bipush 9, 2) by decide +kernel) (by decide +kernel)))
    (ok_leaf (ok_aload_n (show decode cX11_letterPassed 47 = .ok (.aload_n 0, 1) by decide +kernel) rfl)))
    (ok_node
    (ok_leaf (ok_getfield (show decode cX11_letterPassed 48 = .ok (.getfield 119, 3) by decide +kernel) (Or.inl (fd_X11 (by decide) wd_597 rfl rfl))))
    (ok_leaf (ok_iadd (show decode cX11_letterPassed 51 = .ok (.iadd, 1) by decide +kernel))))))))
    (ok_node
    (ok_node
    (ok_node
    (ok_node
    (ok_leaf (ok_aload_n (show decode cX11_letterPassed 52 = .ok (.aload_n 0, 1) by decide +kernel) rfl))
    (ok_node
    (ok_leaf (ok_getfield (show decode cX11_letterPassed 53 = .ok (.getfield 22, 3) by decide +kernel) (Or.inr (fdF_X11 (by decide) wd_540 rfl rfl))))
    (ok_leaf (ok_aload_n (show decode cX11_letterPassed 56 = .ok (.aload_n 0, 1) by decide +kernel) rfl))))
    (ok_node
    (ok_leaf (ok_getfield (show decode cX11_letterPassed 57 = .ok (.getfield 110, 3) by decide +kernel) (Or.inl (fd_X11 (by decide) wd_589 rfl rfl))))
    (ok_node
    (ok_leaf (ok_iaload (show decode cX11_letterPassed 60 = .ok (.iaload, 1) by decide +kernel)))
    (ok_leaf (ok_iastore (show decode cX11_letterPassed 61 = .ok (.iastore, 1) by decide +kernel))))))
    (ok_node
    (ok_node
    (ok_leaf (ok_aload_n (show decode cX11_letterPassed 62 = .ok (.aload_n 0, 1) by decide +kernel) rfl))
    (ok_node
    (ok_leaf (ok_dup (show decode cX11_letterPassed 63 = .ok (.dup, 1) by decide +kernel)))
    (ok_leaf (ok_getfield (show decode cX11_letterPassed 64 = .ok (.getfield 119, 3) by decide +kernel) (Or.inl (fd_X11 (by decide) wd_597 rfl rfl))))))
    (ok_node
    (ok_node
    (ok_leaf (ok_iconst (show decode cX11_letterPassed 67 = .ok (.iconst 1, 1) by decide +kernel) (by decide +kernel)))
    (ok_leaf (ok_iadd (show decode cX11_letterPassed 68 = .ok (.iadd, 1) by decide +kernel))))
    (ok_node
    (ok_leaf (ok_putI (show decode cX11_letterPassed 69 = .ok (.putfield 119, 3) by decide +kernel) (Or.inl (fd_X11 (by decide) wd_597 rfl rfl)) rfl))
    (ok_leaf (ok_aload_n (show decode cX11_letterPassed 72 = .ok (.aload_n 0, 1) by decide +kernel) rfl))))))
    (ok_node
    (ok_node
    (ok_node
    (ok_leaf (ok_dup (show decode cX11_letterPassed 73 = .ok (.dup, 1) by decide +kernel)))
    (ok_node
    (ok_leaf (ok_getfield (show decode cX11_letterPassed 74 = .ok (.getfield 110, 3) by decide +kernel) (Or.inl (fd_X11 (by decide) wd_589 rfl rfl))))
    (ok_leaf (ok_iconst (show decode cX11_letterPassed 77 = .ok (.iconst 1, 1) by decide +kernel) (by decide +kernel)))))
    (ok_node
    (ok_node
    (ok_leaf (ok_iadd (show decode cX11_letterPassed 78 = .ok (.iadd, 1) by decide +kernel)))
    (ok_leaf (ok_putI (show decode cX11_letterPassed 79 = .ok (.putfield 110, 3) by decide +kernel) (Or.inl (fd_X11 (by decide) wd_589 rfl rfl)) rfl)))
    (ok_node
    (ok_leaf (ok_aload_n (show decode cX11_letterPassed 82 = .ok (.aload_n 0, 1) by decide +kernel) rfl))
    (ok_leaf (ok_getfield (show decode cX11_letterPassed 83 = .ok (.getfield 22, 3) by decide +kernel) (Or.inr (fdF_X11 (by decide) wd_540 rfl rfl)))))))
    (ok_node
    (ok_node
    (ok_leaf (ok_aload_n (show decode cX11_letterPassed 86 = .ok (.aload_n 0, 1) by decide +kernel) rfl))
    (ok_node
    (ok_leaf (ok_getfield (show decode cX11_letterPassed 87 = .ok (.getfield 110, 3) by decide +kernel) (Or.inl (fd_X11 (by decide) wd_589 rfl rfl))))
    (ok_leaf (ok_iconst (show decode cX11_letterPassed 90 = .ok (.iconst 1, 1) by decide +kernel) (by decide +kernel)))))
    (ok_node
    (ok_node
    (ok_leaf (ok_isub (show decode cX11_letterPassed 91 = .ok (.isub, 1) by decide +kernel)))
    (ok_leaf (ok_iaload (show decode cX11_letterPassed 92 = .ok (.iaload, 1) by decide +kernel))))
    (ok_node
    (ok_leaf (ok_callS (Mc := M_X11_partsOf) (show decode cX11_letterPassed 93 = .ok (.invokestatic 89, 3) by decide +kernel) rfl (by decide) (by decide +kernel) wd_572 wd_573 wd_558 wd_574 ⟨by decide +kernel, by decide +kernel, by decide +kernel⟩ (by decide)))
    (ok_leaf (ok_ireturn (show decode cX11_letterPassed 96 = .ok (.ireturn, 1) by decide +kernel) rfl)))))))
set_option maxRecDepth 20000 in
set_option maxHeartbeats 4000000 in
theorem ok_X11_closes {sc : List Int32} : ∀ pc, pOk mtOf 189 M_X11_closes false sc pc (cd_X11_closes pc) := by
  unfold cd_X11_closes
  exact ok_node
    (ok_node
    (ok_node
    (ok_node
    (ok_node
    (ok_leaf (ok_iconst (show decode cX11_closes 0 = .ok (.iconst 1, 1) by decide +kernel) (by decide +kernel)))
    (ok_node
    (ok_leaf (ok_istore_n (show decode cX11_closes 1 = .ok (.istore_n 1, 1) by decide +kernel) rfl))
    (ok_leaf (ok_aload_n (show decode cX11_closes 2 = .ok (.aload_n 0, 1) by decide +kernel) rfl))))
    (ok_node
    (ok_node
    (ok_leaf (ok_getfield (show decode cX11_closes 3 = .ok (.getfield 122, 3) by decide +kernel) (Or.inl (fd_X11 (by decide) wd_598 rfl rfl))))
    (ok_leaf (ok_if_le (show decode cX11_closes 6 = .ok (.ifCond .le 7, 3) by decide +kernel) (by decide +kernel))))
    (ok_node
    (ok_leaf (ok_iconst (show decode cX11_closes 9 = .ok (.iconst 1, 1) by decide +kernel) (by decide +kernel)))
    (ok_leaf (ok_goto (show decode cX11_closes 10 = .ok (.goto 4, 3) by decide +kernel) (by decide +kernel))))))
    (ok_node
    (ok_node
    (ok_leaf (ok_iconst (show decode cX11_closes 13 = .ok (.iconst 0, 1) by decide +kernel) (by decide +kernel)))
    (ok_node
    (ok_leaf (ok_istore_n (show decode cX11_closes 14 = .ok (.istore_n 2, 1) by decide +kernel) rfl))
    (ok_leaf (ok_iload_n (show decode cX11_closes 15 = .ok (.iload_n 2, 1) by decide +kernel) rfl))))
    (ok_node
    (ok_node
    (ok_leaf (ok_if_eq (show decode cX11_closes 16 = .ok (.ifCond .eq 76, 3) by decide +kernel) (by decide +kernel)))
    (ok_leaf (ok_iload_n (show decode cX11_closes 19 = .ok (.iload_n 1, 1) by decide +kernel) rfl)))
    (ok_node
    (ok_leaf (ok_if_eq (show decode cX11_closes 20 = .ok (.ifCond .eq 72, 3) by decide +kernel) (by decide +kernel)))
    (ok_leaf (ok_aload_n (show decode cX11_closes 23 = .ok (.aload_n 0, 1) by decide +kernel) rfl))))))
    (ok_node
    (ok_node
    (ok_node
    (ok_leaf (ok_getfield (show decode cX11_closes 24 = .ok (.getfield 31, 3) by decide +kernel) (Or.inr (fdF_X11 (by decide) wd_543 rfl rfl))))
    (ok_node
    (ok_leaf (ok_aload_n (show decode cX11_closes 27 = .ok (.aload_n 0, 1) by decide +kernel) rfl))
    (ok_leaf (ok_getfield (show decode cX11_closes 28 = .ok (.getfield 122, 3) by decide +kernel) (Or.inl (fd_X11 (by decide) wd_598 rfl rfl))))))
    (ok_node
    (ok_node
    (ok_leaf (ok_iconst (show decode cX11_closes 31 = .ok (.iconst 1, 1) by decide +kernel) (by decide +kernel)))
    (ok_leaf (ok_isub (show decode cX11_closes 32 = .ok (.isub, 1) by decide +kernel))))
    (ok_node
    (ok_leaf (ok_dup2 (show decode cX11_closes 33 = .ok (.dup2, 1) by decide +kernel)))
    (ok_leaf (ok_iaload (show decode cX11_closes 34 = .ok (.iaload, 1) by decide +kernel))))))
    (ok_node
    (ok_node
    (ok_leaf (ok_iconst (show decode cX11_closes 35 = .ok (.iconst 1, 1) by decide +kernel) (by decide +kernel)))
    (ok_node
    (ok_leaf (ok_isub (show decode cX11_closes 36 = .ok (.isub, 1) by decide +kernel)))
    (ok_leaf (ok_iastore (show decode cX11_closes 37 = .ok (.iastore, 1) by decide +kernel)))))
    (ok_node
    (ok_node
    (ok_leaf (ok_aload_n (show decode cX11_closes 38 = .ok (.aload_n 0, 1) by decide +kernel) rfl))
    (ok_leaf (ok_getfield (show decode cX11_closes 39 = .ok (.getfield 31, 3) by decide +kernel) (Or.inr (fdF_X11 (by decide) wd_543 rfl rfl)))))
    (ok_node
    (ok_leaf (ok_aload_n (show decode cX11_closes 42 = .ok (.aload_n 0, 1) by decide +kernel) rfl))
    (ok_leaf (ok_getfield (show decode cX11_closes 43 = .ok (.getfield 122, 3) by decide +kernel) (Or.inl (fd_X11 (by decide) wd_598 rfl rfl)))))))))
    (ok_node
    (ok_node
    (ok_node
    (ok_node
    (ok_leaf (ok_iconst (show decode cX11_closes 46 = .ok (.iconst 1, 1) by decide +kernel) (by decide +kernel)))
    (ok_node
    (ok_leaf (ok_isub (show decode cX11_closes 47 = .ok (.isub, 1) by decide +kernel)))
    (ok_leaf (ok_iaload (show decode cX11_closes 48 = .ok (.iaload, 1) by decide +kernel)))))
    (ok_node
    (ok_node
    (ok_leaf (ok_if_le (show decode cX11_closes 49 = .ok (.ifCond .le 10, 3) by decide +kernel) (by decide +kernel)))
    (ok_leaf (ok_aload_n (show decode cX11_closes 52 = .ok (.aload_n 0, 1) by decide +kernel) rfl)))
    (ok_node
    (ok_leaf (ok_bipush (show decode cX11_closes 53 = .ok (.bipush 44, 2) by decide +kernel) (by decide +kernel)))
    (ok_leaf (ok_callV (C := RX11) (T := TX11) (N := 31) (Mc := M_X11_passes) (show decode cX11_closes 55 = .ok (.invokevirtual 125, 3) by decide +kernel) rfl (by decide) (by decide +kernel) rfl rfl wd_599 wd_600 wd_601 wd_558 wd_602 ⟨by decide +kernel, by decide +kernel, by decide +kernel⟩ (by decide))))))
    (ok_node
    (ok_node
    (ok_leaf (ok_zreturn (show decode cX11_closes 58 = .ok (.ireturn, 1) by decide +kernel) rfl))
    (ok_node
    (ok_leaf (ok_aload_n (show decode cX11_closes 59 = .ok (.aload_n 0, 1) by decide +kernel) rfl))
    (ok_leaf (ok_bipush (show decode cX11_closes 60 = .ok (.bipush 41, 2) by decide +kernel) (by decide +kernel)))))
    (ok_node
    (ok_node
    (ok_leaf (ok_callV (C := RX11) (T := TX11) (N := 31) (Mc := M_X11_passes) (show decode cX11_closes 62 = .ok (.invokevirtual 125, 3) by decide +kernel) rfl (by decide) (by decide +kernel) rfl rfl wd_599 wd_600 wd_601 wd_558 wd_602 ⟨by decide +kernel, by decide +kernel, by decide +kernel⟩ (by decide)))
    (ok_leaf (ok_istore_n (show decode cX11_closes 65 = .ok (.istore_n 1, 1) by decide +kernel) rfl)))
    (ok_node
    (ok_leaf (ok_aload_n (show decode cX11_closes 66 = .ok (.aload_n 0, 1) by decide +kernel) rfl))
    (ok_leaf (ok_dup (show decode cX11_closes 67 = .ok (.dup, 1) by decide +kernel)))))))
    (ok_node
    (ok_node
    (ok_node
    (ok_leaf (ok_getfield (show decode cX11_closes 68 = .ok (.getfield 122, 3) by decide +kernel) (Or.inl (fd_X11 (by decide) wd_598 rfl rfl))))
    (ok_node
    (ok_leaf (ok_iconst (show decode cX11_closes 71 = .ok (.iconst 1, 1) by decide +kernel) (by decide +kernel)))
    (ok_leaf (ok_isub (show decode cX11_closes 72 = .ok (.isub, 1) by decide +kernel)))))
    (ok_node
    (ok_node
    (ok_leaf (ok_putI (show decode cX11_closes 73 = .ok (.putfield 122, 3) by decide +kernel) (Or.inl (fd_X11 (by decide) wd_598 rfl rfl)) rfl))
    (ok_leaf (ok_aload_n (show decode cX11_closes 76 = .ok (.aload_n 0, 1) by decide +kernel) rfl)))
    (ok_node
    (ok_leaf (ok_getfield (show decode cX11_closes 77 = .ok (.getfield 122, 3) by decide +kernel) (Or.inl (fd_X11 (by decide) wd_598 rfl rfl))))
    (ok_leaf (ok_if_le (show decode cX11_closes 80 = .ok (.ifCond .le 7, 3) by decide +kernel) (by decide +kernel))))))
    (ok_node
    (ok_node
    (ok_leaf (ok_iconst (show decode cX11_closes 83 = .ok (.iconst 1, 1) by decide +kernel) (by decide +kernel)))
    (ok_node
    (ok_leaf (ok_goto (show decode cX11_closes 84 = .ok (.goto 4, 3) by decide +kernel) (by decide +kernel)))
    (ok_leaf (ok_iconst (show decode cX11_closes 87 = .ok (.iconst 0, 1) by decide +kernel) (by decide +kernel)))))
    (ok_node
    (ok_node
    (ok_leaf (ok_istore_n (show decode cX11_closes 88 = .ok (.istore_n 2, 1) by decide +kernel) rfl))
    (ok_leaf (ok_goto (show decode cX11_closes 89 = .ok (.goto (-74), 3) by decide +kernel) (by decide +kernel))))
    (ok_node
    (ok_leaf (ok_iload_n (show decode cX11_closes 92 = .ok (.iload_n 1, 1) by decide +kernel) rfl))
    (ok_leaf (ok_zreturn (show decode cX11_closes 93 = .ok (.ireturn, 1) by decide +kernel) rfl)))))))
set_option maxRecDepth 20000 in
set_option maxHeartbeats 4000000 in
theorem ok_X11_readsTerm {sc : List Int32} : ∀ pc, pOk mtOf 189 M_X11_readsTerm false sc pc (cd_X11_readsTerm pc) := by
  unfold cd_X11_readsTerm
  exact ok_node
    (ok_node
    (ok_node
    (ok_node
    (ok_node
    (ok_leaf (ok_aload_n (show decode cX11_readsTerm 0 = .ok (.aload_n 0, 1) by decide +kernel) rfl))
    (ok_node
    (ok_leaf (ok_iconst (show decode cX11_readsTerm 1 = .ok (.iconst 0, 1) by decide +kernel) (by decide +kernel)))
    (ok_leaf (ok_putI (show decode cX11_readsTerm 2 = .ok (.putfield 122, 3) by decide +kernel) (Or.inl (fd_X11 (by decide) wd_598 rfl rfl)) rfl))))
    (ok_node
    (ok_leaf (ok_iconst (show decode cX11_readsTerm 5 = .ok (.iconst 1, 1) by decide +kernel) (by decide +kernel)))
    (ok_node
    (ok_leaf (ok_istore_n (show decode cX11_readsTerm 6 = .ok (.istore_n 1, 1) by decide +kernel) rfl))
    (ok_leaf (ok_iload_n (show decode cX11_readsTerm 7 = .ok (.iload_n 1, 1) by decide +kernel) rfl)))))
    (ok_node
    (ok_node
    (ok_leaf (ok_if_eq (show decode cX11_readsTerm 8 = .ok (.ifCond .eq 74, 3) by decide +kernel) (by decide +kernel)))
    (ok_node
    (ok_leaf (ok_aload_n (show decode cX11_readsTerm 11 = .ok (.aload_n 0, 1) by decide +kernel) rfl))
    (ok_leaf (ok_callV (C := RX11) (T := TX11) (N := 31) (Mc := M_X11_letterPassed) (show decode cX11_readsTerm 12 = .ok (.invokevirtual 128, 3) by decide +kernel) rfl (by decide) (by decide +kernel) rfl rfl wd_603 wd_604 wd_605 wd_558 wd_606 ⟨by decide +kernel, by decide +kernel, by decide +kernel⟩ (by decide)))))
    (ok_node
    (ok_leaf (ok_istore_n (show decode cX11_readsTerm 15 = .ok (.istore_n 2, 1) by decide +kernel) rfl))
    (ok_node
    (ok_leaf (ok_iload_n (show decode cX11_readsTerm 16 = .ok (.iload_n 2, 1) by decide +kernel) rfl))
    (ok_leaf (ok_if_ge (show decode cX11_readsTerm 17 = .ok (.ifCond .ge 5, 3) by decide +kernel) (by decide +kernel)))))))
    (ok_node
    (ok_node
    (ok_node
    (ok_leaf (ok_iconst (show decode cX11_readsTerm 20 = .ok (.iconst 0, 1) by decide +kernel) (by decide +kernel)))
    (ok_node
    (ok_leaf (ok_zreturn (show decode cX11_readsTerm 21 = .ok (.ireturn, 1) by decide +kernel) rfl))
    (ok_leaf (ok_iload_n (show decode cX11_readsTerm 22 = .ok (.iload_n 2, 1) by decide +kernel) rfl))))
    (ok_node
    (ok_leaf (ok_if_le (show decode cX11_readsTerm 23 = .ok (.ifCond .le 34, 3) by decide +kernel) (by decide +kernel)))
    (ok_node
    (ok_leaf (ok_aload_n (show decode cX11_readsTerm 26 = .ok (.aload_n 0, 1) by decide +kernel) rfl))
    (ok_leaf (ok_getfield (show decode cX11_readsTerm 27 = .ok (.getfield 31, 3) by decide +kernel) (Or.inr (fdF_X11 (by decide) wd_543 rfl rfl)))))))
    (ok_node
    (ok_node
    (ok_leaf (ok_aload_n (show decode cX11_readsTerm 30 = .ok (.aload_n 0, 1) by decide +kernel) rfl))
    (ok_node
    (ok_leaf (ok_getfield (show decode cX11_readsTerm 31 = .ok (.getfield 122, 3) by decide +kernel) (Or.inl (fd_X11 (by decide) wd_598 rfl rfl))))
    (ok_leaf (ok_iload_n (show decode cX11_readsTerm 34 = .ok (.iload_n 2, 1) by decide +kernel) rfl))))
    (ok_node
    (ok_leaf (ok_iastore (show decode cX11_readsTerm 35 = .ok (.iastore, 1) by decide +kernel)))
    (ok_node
    (ok_leaf (ok_aload_n (show decode cX11_readsTerm 36 = .ok (.aload_n 0, 1) by decide +kernel) rfl))
    (ok_leaf (ok_dup (show decode cX11_readsTerm 37 = .ok (.dup, 1) by decide +kernel))))))))
    (ok_node
    (ok_node
    (ok_node
    (ok_node
    (ok_leaf (ok_getfield (show decode cX11_readsTerm 38 = .ok (.getfield 122, 3) by decide +kernel) (Or.inl (fd_X11 (by decide) wd_598 rfl rfl))))
    (ok_node
    (ok_leaf (ok_iconst (show decode cX11_readsTerm 41 = .ok (.iconst 1, 1) by decide +kernel) (by decide +kernel)))
    (ok_leaf (ok_iadd (show decode cX11_readsTerm 42 = .ok (.iadd, 1) by decide +kernel)))))
    (ok_node
    (ok_leaf (ok_putI (show decode cX11_readsTerm 43 = .ok (.putfield 122, 3) by decide +kernel) (Or.inl (fd_X11 (by decide) wd_598 rfl rfl)) rfl))
    (ok_node
    (ok_leaf (ok_aload_n (show decode cX11_readsTerm 46 = .ok (.aload_n 0, 1) by decide +kernel) rfl))
    (ok_leaf (ok_bipush (show decode cX11_readsTerm 47 = .ok (.bipush 40, 2) by decide +kernel) (by decide +kernel))))))
    (ok_node
    (ok_node
    (ok_leaf (ok_callV (C := RX11) (T := TX11) (N := 31) (Mc := M_X11_passes) (show decode cX11_readsTerm 49 = .ok (.invokevirtual 125, 3) by decide +kernel) rfl (by decide) (by decide +kernel) rfl rfl wd_599 wd_600 wd_601 wd_558 wd_602 ⟨by decide +kernel, by decide +kernel, by decide +kernel⟩ (by decide)))
    (ok_node
    (ok_leaf (ok_if_ne (show decode cX11_readsTerm 52 = .ok (.ifCond .ne 27, 3) by decide +kernel) (by decide +kernel)))
    (ok_leaf (ok_iconst (show decode cX11_readsTerm 55 = .ok (.iconst 0, 1) by decide +kernel) (by decide +kernel)))))
    (ok_node
    (ok_leaf (ok_zreturn (show decode cX11_readsTerm 56 = .ok (.ireturn, 1) by decide +kernel) rfl))
    (ok_node
    (ok_leaf (ok_aload_n (show decode cX11_readsTerm 57 = .ok (.aload_n 0, 1) by decide +kernel) rfl))
    (ok_leaf (ok_callV (C := RX11) (T := TX11) (N := 31) (Mc := M_X11_closes) (show decode cX11_readsTerm 58 = .ok (.invokevirtual 131, 3) by decide +kernel) rfl (by decide) (by decide +kernel) rfl rfl wd_607 wd_608 wd_609 wd_558 wd_610 ⟨by decide +kernel, by decide +kernel, by decide +kernel⟩ (by decide)))))))
    (ok_node
    (ok_node
    (ok_node
    (ok_leaf (ok_if_ne (show decode cX11_readsTerm 61 = .ok (.ifCond .ne 5, 3) by decide +kernel) (by decide +kernel)))
    (ok_node
    (ok_leaf (ok_iconst (show decode cX11_readsTerm 64 = .ok (.iconst 0, 1) by decide +kernel) (by decide +kernel)))
    (ok_leaf (ok_zreturn (show decode cX11_readsTerm 65 = .ok (.ireturn, 1) by decide +kernel) rfl))))
    (ok_node
    (ok_leaf (ok_aload_n (show decode cX11_readsTerm 66 = .ok (.aload_n 0, 1) by decide +kernel) rfl))
    (ok_node
    (ok_leaf (ok_getfield (show decode cX11_readsTerm 67 = .ok (.getfield 122, 3) by decide +kernel) (Or.inl (fd_X11 (by decide) wd_598 rfl rfl))))
    (ok_leaf (ok_if_le (show decode cX11_readsTerm 70 = .ok (.ifCond .le 7, 3) by decide +kernel) (by decide +kernel))))))
    (ok_node
    (ok_node
    (ok_leaf (ok_iconst (show decode cX11_readsTerm 73 = .ok (.iconst 1, 1) by decide +kernel) (by decide +kernel)))
    (ok_node
    (ok_leaf (ok_goto (show decode cX11_readsTerm 74 = .ok (.goto 4, 3) by decide +kernel) (by decide +kernel)))
    (ok_leaf (ok_iconst (show decode cX11_readsTerm 77 = .ok (.iconst 0, 1) by decide +kernel) (by decide +kernel)))))
    (ok_node
    (ok_node
    (ok_leaf (ok_istore_n (show decode cX11_readsTerm 78 = .ok (.istore_n 1, 1) by decide +kernel) rfl))
    (ok_leaf (ok_goto (show decode cX11_readsTerm 79 = .ok (.goto (-72), 3) by decide +kernel) (by decide +kernel))))
    (ok_node
    (ok_leaf (ok_iconst (show decode cX11_readsTerm 82 = .ok (.iconst 1, 1) by decide +kernel) (by decide +kernel)))
    (ok_leaf (ok_zreturn (show decode cX11_readsTerm 83 = .ok (.ireturn, 1) by decide +kernel) rfl)))))))
set_option maxRecDepth 20000 in
set_option maxHeartbeats 4000000 in
theorem ok_X11_readsEquation {sc : List Int32} : ∀ pc, pOk mtOf 189 M_X11_readsEquation false sc pc (cd_X11_readsEquation pc) := by
  unfold cd_X11_readsEquation
  exact ok_node
    (ok_node
    (ok_node
    (ok_node
    (ok_node
    (ok_node
    (ok_leaf (ok_aload_n (show decode cX11_readsEquation 0 = .ok (.aload_n 0, 1) by decide +kernel) rfl))
    (ok_leaf (ok_getfield (show decode cX11_readsEquation 1 = .ok (.getfield 13, 3) by decide +kernel) (Or.inr (fdF_X11 (by decide) wd_537 rfl rfl)))))
    (ok_node
    (ok_leaf (ok_iconst (show decode cX11_readsEquation 4 = .ok (.iconst 0, 1) by decide +kernel) (by decide +kernel)))
    (ok_leaf (ok_iaload (show decode cX11_readsEquation 5 = .ok (.iaload, 1) by decide +kernel)))))
    (ok_node
    (ok_node
    (ok_leaf (ok_iconst (show decode cX11_readsEquation 6 = .ok (.iconst 4, 1) by decide +kernel) (by decide +kernel)))
    (ok_leaf (ok_icmp_ne (show decode cX11_readsEquation 7 = .ok (.if_icmp .ne 5, 3) by decide +kernel) (by decide +kernel))))
    (ok_node
    (ok_leaf (ok_iconst (show decode cX11_readsEquation 10 = .ok (.iconst 0, 1) by decide +kernel) (by decide +kernel)))
    (ok_node
    (ok_leaf (ok_zreturn (show decode cX11_readsEquation 11 = .ok (.ireturn, 1) by decide +kernel) rfl))
    (ok_leaf (ok_aload_n (show decode cX11_readsEquation 12 = .ok (.aload_n 0, 1) by decide +kernel) rfl))))))
    (ok_node
    (ok_node
    (ok_node
    (ok_leaf (ok_getfield (show decode cX11_readsEquation 13 = .ok (.getfield 119, 3) by decide +kernel) (Or.inl (fd_X11 (by decide) wd_597 rfl rfl))))
    (ok_leaf (ok_istore_n (show decode cX11_readsEquation 16 = .ok (.istore_n 1, 1) by decide +kernel) rfl)))
    (ok_node
    (ok_leaf (ok_aload_n (show decode cX11_readsEquation 17 = .ok (.aload_n 0, 1) by decide +kernel) rfl))
    (ok_leaf (ok_callV (C := RX11) (T := TX11) (N := 31) (Mc := M_X11_readsTerm) (show decode cX11_readsEquation 18 = .ok (.invokevirtual 135, 3) by decide +kernel) rfl (by decide) (by decide +kernel) rfl rfl wd_611 wd_612 wd_613 wd_558 wd_614 ⟨by decide +kernel, by decide +kernel, by decide +kernel⟩ (by decide)))))
    (ok_node
    (ok_node
    (ok_leaf (ok_if_eq (show decode cX11_readsEquation 21 = .ok (.ifCond .eq 12, 3) by decide +kernel) (by decide +kernel)))
    (ok_leaf (ok_aload_n (show decode cX11_readsEquation 24 = .ok (.aload_n 0, 1) by decide +kernel) rfl)))
    (ok_node
    (ok_leaf (ok_bipush (show decode cX11_readsEquation 25 = .ok (.bipush 61, 2) by decide +kernel) (by decide +kernel)))
    (ok_node
    (ok_leaf (ok_callV (C := RX11) (T := TX11) (N := 31) (Mc := M_X11_passes) (show decode cX11_readsEquation 27 = .ok (.invokevirtual 125, 3) by decide +kernel) rfl (by decide) (by decide +kernel) rfl rfl wd_599 wd_600 wd_601 wd_558 wd_602 ⟨by decide +kernel, by decide +kernel, by decide +kernel⟩ (by decide)))
    (ok_leaf (ok_if_ne (show decode cX11_readsEquation 30 = .ok (.ifCond .ne 5, 3) by decide +kernel) (by decide +kernel))))))))
    (ok_node
    (ok_node
    (ok_node
    (ok_node
    (ok_leaf (ok_iconst (show decode cX11_readsEquation 33 = .ok (.iconst 0, 1) by decide +kernel) (by decide +kernel)))
    (ok_leaf (ok_zreturn (show decode cX11_readsEquation 34 = .ok (.ireturn, 1) by decide +kernel) rfl)))
    (ok_node
    (ok_leaf (ok_aload_n (show decode cX11_readsEquation 35 = .ok (.aload_n 0, 1) by decide +kernel) rfl))
    (ok_leaf (ok_getfield (show decode cX11_readsEquation 36 = .ok (.getfield 119, 3) by decide +kernel) (Or.inl (fd_X11 (by decide) wd_597 rfl rfl))))))
    (ok_node
    (ok_node
    (ok_leaf (ok_istore_n (show decode cX11_readsEquation 39 = .ok (.istore_n 2, 1) by decide +kernel) rfl))
    (ok_leaf (ok_aload_n (show decode cX11_readsEquation 40 = .ok (.aload_n 0, 1) by decide +kernel) rfl)))
    (ok_node
    (ok_leaf (ok_callV (C := RX11) (T := TX11) (N := 31) (Mc := M_X11_readsTerm) (show decode cX11_readsEquation 41 = .ok (.invokevirtual 135, 3) by decide +kernel) rfl (by decide) (by decide +kernel) rfl rfl wd_611 wd_612 wd_613 wd_558 wd_614 ⟨by decide +kernel, by decide +kernel, by decide +kernel⟩ (by decide)))
    (ok_node
    (ok_leaf (ok_if_eq (show decode cX11_readsEquation 44 = .ok (.ifCond .eq 12, 3) by decide +kernel) (by decide +kernel)))
    (ok_leaf (ok_aload_n (show decode cX11_readsEquation 47 = .ok (.aload_n 0, 1) by decide +kernel) rfl))))))
    (ok_node
    (ok_node
    (ok_node
    (ok_leaf (ok_bipush (show decode cX11_readsEquation 48 = .ok (.bipush 59, 2) by decide +kernel) (by decide +kernel)))
    (ok_leaf (ok_callV (C := RX11) (T := TX11) (N := 31) (Mc := M_X11_passes) (show decode cX11_readsEquation 50 = .ok (.invokevirtual 125, 3) by decide +kernel) rfl (by decide) (by decide +kernel) rfl rfl wd_599 wd_600 wd_601 wd_558 wd_602 ⟨by decide +kernel, by decide +kernel, by decide +kernel⟩ (by decide))))
    (ok_node
    (ok_leaf (ok_if_ne (show decode cX11_readsEquation 53 = .ok (.ifCond .ne 5, 3) by decide +kernel) (by decide +kernel)))
    (ok_leaf (ok_iconst (show decode cX11_readsEquation 56 = .ok (.iconst 0, 1) by decide +kernel) (by decide +kernel)))))
    (ok_node
    (ok_node
    (ok_leaf (ok_zreturn (show decode cX11_readsEquation 57 = .ok (.ireturn, 1) by decide +kernel) rfl))
    (ok_leaf (ok_aload_n (show decode cX11_readsEquation 58 = .ok (.aload_n 0, 1) by decide +kernel) rfl)))
    (ok_node
    (ok_leaf (ok_getfield (show decode cX11_readsEquation 59 = .ok (.getfield 13, 3) by decide +kernel) (Or.inr (fdF_X11 (by decide) wd_537 rfl rfl))))
    (ok_node
    (ok_leaf (ok_iconst (show decode cX11_readsEquation 62 = .ok (.iconst 1, 1) by decide +kernel) (by decide +kernel)))
    (ok_leaf (ok_iconst (show decode cX11_readsEquation 63 = .ok (.iconst 2, 1) by decide +kernel) (by decide +kernel)))))))))
    (ok_node
    (ok_node
    (ok_node
    (ok_node
    (ok_node
    (ok_leaf (ok_aload_n (show decode cX11_readsEquation 64 = .ok (.aload_n 0, 1) by decide +kernel) rfl))
    (ok_leaf (ok_getfield (show decode cX11_readsEquation 65 = .ok (.getfield 13, 3) by decide +kernel) (Or.inr (fdF_X11 (by decide) wd_537 rfl rfl)))))
    (ok_node
    (ok_leaf (ok_iconst (show decode cX11_readsEquation 68 = .ok (.iconst 0, 1) by decide +kernel) (by decide +kernel)))
    (ok_leaf (ok_iaload (show decode cX11_readsEquation 69 = .ok (.iaload, 1) by decide +kernel)))))
    (ok_node
    (ok_node
    (ok_leaf (ok_imul (show decode cX11_readsEquation 70 = .ok (.imul, 1) by decide +kernel)))
    (ok_leaf (ok_iadd (show decode cX11_readsEquation 71 = .ok (.iadd, 1) by decide +kernel))))
    (ok_node
    (ok_leaf (ok_iload_n (show decode cX11_readsEquation 72 = .ok (.iload_n 2, 1) by decide +kernel) rfl))
    (ok_node
    (ok_leaf (ok_iload_n (show decode cX11_readsEquation 73 = .ok (.iload_n 1, 1) by decide +kernel) rfl))
    (ok_leaf (ok_isub (show decode cX11_readsEquation 74 = .ok (.isub, 1) by decide +kernel)))))))
    (ok_node
    (ok_node
    (ok_node
    (ok_leaf (ok_iastore (show decode cX11_readsEquation 75 = .ok (.iastore, 1) by decide +kernel)))
    (ok_leaf (ok_aload_n (show decode cX11_readsEquation 76 = .ok (.aload_n 0, 1) by decide +kernel) rfl)))
    (ok_node
    (ok_leaf (ok_getfield (show decode cX11_readsEquation 77 = .ok (.getfield 13, 3) by decide +kernel) (Or.inr (fdF_X11 (by decide) wd_537 rfl rfl))))
    (ok_leaf (ok_iconst (show decode cX11_readsEquation 80 = .ok (.iconst 1, 1) by decide +kernel) (by decide +kernel)))))
    (ok_node
    (ok_node
    (ok_leaf (ok_iconst (show decode cX11_readsEquation 81 = .ok (.iconst 2, 1) by decide +kernel) (by decide +kernel)))
    (ok_leaf (ok_aload_n (show decode cX11_readsEquation 82 = .ok (.aload_n 0, 1) by decide +kernel) rfl)))
    (ok_node
    (ok_leaf (ok_getfield (show decode cX11_readsEquation 83 = .ok (.getfield 13, 3) by decide +kernel) (Or.inr (fdF_X11 (by decide) wd_537 rfl rfl))))
    (ok_node
    (ok_leaf (ok_iconst (show decode cX11_readsEquation 86 = .ok (.iconst 0, 1) by decide +kernel) (by decide +kernel)))
    (ok_leaf (ok_iaload (show decode cX11_readsEquation 87 = .ok (.iaload, 1) by decide +kernel))))))))
    (ok_node
    (ok_node
    (ok_node
    (ok_node
    (ok_leaf (ok_imul (show decode cX11_readsEquation 88 = .ok (.imul, 1) by decide +kernel)))
    (ok_leaf (ok_iadd (show decode cX11_readsEquation 89 = .ok (.iadd, 1) by decide +kernel))))
    (ok_node
    (ok_leaf (ok_iconst (show decode cX11_readsEquation 90 = .ok (.iconst 1, 1) by decide +kernel) (by decide +kernel)))
    (ok_leaf (ok_iadd (show decode cX11_readsEquation 91 = .ok (.iadd, 1) by decide +kernel)))))
    (ok_node
    (ok_node
    (ok_leaf (ok_aload_n (show decode cX11_readsEquation 92 = .ok (.aload_n 0, 1) by decide +kernel) rfl))
    (ok_leaf (ok_getfield (show decode cX11_readsEquation 93 = .ok (.getfield 119, 3) by decide +kernel) (Or.inl (fd_X11 (by decide) wd_597 rfl rfl)))))
    (ok_node
    (ok_leaf (ok_iload_n (show decode cX11_readsEquation 96 = .ok (.iload_n 2, 1) by decide +kernel) rfl))
    (ok_node
    (ok_leaf (ok_isub (show decode cX11_readsEquation 97 = .ok (.isub, 1) by decide +kernel)))
    (ok_leaf (ok_iastore (show decode cX11_readsEquation 98 = .ok (.iastore, 1) by decide +kernel)))))))
    (ok_node
    (ok_node
    (ok_node
    (ok_leaf (ok_aload_n (show decode cX11_readsEquation 99 = .ok (.aload_n 0, 1) by decide +kernel) rfl))
    (ok_leaf (ok_getfield (show decode cX11_readsEquation 100 = .ok (.getfield 13, 3) by decide +kernel) (Or.inr (fdF_X11 (by decide) wd_537 rfl rfl)))))
    (ok_node
    (ok_leaf (ok_iconst (show decode cX11_readsEquation 103 = .ok (.iconst 0, 1) by decide +kernel) (by decide +kernel)))
    (ok_node
    (ok_leaf (ok_dup2 (show decode cX11_readsEquation 104 = .ok (.dup2, 1) by decide +kernel)))
    (ok_leaf (ok_iaload (show decode cX11_readsEquation 105 = .ok (.iaload, 1) by decide +kernel))))))
    (ok_node
    (ok_node
    (ok_leaf (ok_iconst (show decode cX11_readsEquation 106 = .ok (.iconst 1, 1) by decide +kernel) (by decide +kernel)))
    (ok_leaf (ok_iadd (show decode cX11_readsEquation 107 = .ok (.iadd, 1) by decide +kernel))))
    (ok_node
    (ok_leaf (ok_iastore (show decode cX11_readsEquation 108 = .ok (.iastore, 1) by decide +kernel)))
    (ok_node
    (ok_leaf (ok_iconst (show decode cX11_readsEquation 109 = .ok (.iconst 1, 1) by decide +kernel) (by decide +kernel)))
    (ok_leaf (ok_zreturn (show decode cX11_readsEquation 110 = .ok (.ireturn, 1) by decide +kernel) rfl))))))))
set_option maxRecDepth 20000 in
set_option maxHeartbeats 4000000 in
theorem ok_X11_isRead {sc : List Int32} : ∀ pc, pOk mtOf 189 M_X11_isRead false sc pc (cd_X11_isRead pc) := by
  unfold cd_X11_isRead
  exact ok_node
    (ok_node
    (ok_node
    (ok_node
    (ok_node
    (ok_leaf (ok_iconst (show decode cX11_isRead 0 = .ok (.iconst 0, 1) by decide +kernel) (by decide +kernel)))
    (ok_leaf (ok_istore_n (show decode cX11_isRead 1 = .ok (.istore_n 1, 1) by decide +kernel) rfl)))
    (ok_node
    (ok_leaf (ok_iload_n (show decode cX11_isRead 2 = .ok (.iload_n 1, 1) by decide +kernel) rfl))
    (ok_leaf (ok_bipush (show decode cX11_isRead 3 = .ok (.bipush 49, 2) by decide +kernel) (by decide +kernel)))))
    (ok_node
    (ok_node
    (ok_leaf (ok_icmp_ge (show decode cX11_isRead 5 = .ok (.if_icmp .ge 16, 3) by decide +kernel) (by decide +kernel)))
    (ok_leaf (ok_aload_n (show decode cX11_isRead 8 = .ok (.aload_n 0, 1) by decide +kernel) rfl)))
    (ok_node
    (ok_leaf (ok_getfield (show decode cX11_isRead 9 = .ok (.getfield 13, 3) by decide +kernel) (Or.inr (fdF_X11 (by decide) wd_537 rfl rfl))))
    (ok_leaf (ok_iload_n (show decode cX11_isRead 12 = .ok (.iload_n 1, 1) by decide +kernel) rfl)))))
    (ok_node
    (ok_node
    (ok_node
    (ok_leaf (ok_iconst (show decode cX11_isRead 13 = .ok (.iconst 0, 1) by decide +kernel) (by decide +kernel)))
    (ok_leaf (ok_iastore (show decode cX11_isRead 14 = .ok (.iastore, 1) by decide +kernel))))
    (ok_node
    (ok_leaf (ok_iinc (show decode cX11_isRead 15 = .ok (.iinc 1 1, 3) by decide +kernel) (by decide +kernel)))
    (ok_leaf (ok_goto (show decode cX11_isRead 18 = .ok (.goto (-16), 3) by decide +kernel) (by decide +kernel)))))
    (ok_node
    (ok_node
    (ok_leaf (ok_aload_n (show decode cX11_isRead 21 = .ok (.aload_n 0, 1) by decide +kernel) rfl))
    (ok_leaf (ok_iconst (show decode cX11_isRead 22 = .ok (.iconst 0, 1) by decide +kernel) (by decide +kernel))))
    (ok_node
    (ok_leaf (ok_putI (show decode cX11_isRead 23 = .ok (.putfield 110, 3) by decide +kernel) (Or.inl (fd_X11 (by decide) wd_589 rfl rfl)) rfl))
    (ok_node
    (ok_leaf (ok_aload_n (show decode cX11_isRead 26 = .ok (.aload_n 0, 1) by decide +kernel) rfl))
    (ok_leaf (ok_iconst (show decode cX11_isRead 27 = .ok (.iconst 0, 1) by decide +kernel) (by decide +kernel))))))))
    (ok_node
    (ok_node
    (ok_node
    (ok_node
    (ok_leaf (ok_putI (show decode cX11_isRead 28 = .ok (.putfield 119, 3) by decide +kernel) (Or.inl (fd_X11 (by decide) wd_597 rfl rfl)) rfl))
    (ok_leaf (ok_aload_n (show decode cX11_isRead 31 = .ok (.aload_n 0, 1) by decide +kernel) rfl)))
    (ok_node
    (ok_leaf (ok_callV (C := RX11) (T := TX11) (N := 31) (Mc := M_X11_blanks) (show decode cX11_isRead 32 = .ok (.invokevirtual 113, 3) by decide +kernel) rfl (by decide) (by decide +kernel) rfl rfl wd_590 wd_591 wd_592 wd_558 wd_593 ⟨by decide +kernel, by decide +kernel, by decide +kernel⟩ (by decide)))
    (ok_leaf (ok_aload_n (show decode cX11_isRead 35 = .ok (.aload_n 0, 1) by decide +kernel) rfl))))
    (ok_node
    (ok_node
    (ok_leaf (ok_getfield (show decode cX11_isRead 36 = .ok (.getfield 110, 3) by decide +kernel) (Or.inl (fd_X11 (by decide) wd_589 rfl rfl))))
    (ok_leaf (ok_aload_n (show decode cX11_isRead 39 = .ok (.aload_n 0, 1) by decide +kernel) rfl)))
    (ok_node
    (ok_leaf (ok_getfield (show decode cX11_isRead 40 = .ok (.getfield 104, 3) by decide +kernel) (Or.inl (fd_X11 (by decide) wd_584 rfl rfl))))
    (ok_node
    (ok_leaf (ok_icmp_ge (show decode cX11_isRead 43 = .ok (.if_icmp .ge 19, 3) by decide +kernel) (by decide +kernel)))
    (ok_leaf (ok_aload_n (show decode cX11_isRead 46 = .ok (.aload_n 0, 1) by decide +kernel) rfl))))))
    (ok_node
    (ok_node
    (ok_node
    (ok_leaf (ok_callV (C := RX11) (T := TX11) (N := 31) (Mc := M_X11_readsEquation) (show decode cX11_isRead 47 = .ok (.invokevirtual 138, 3) by decide +kernel) rfl (by decide) (by decide +kernel) rfl rfl wd_615 wd_616 wd_617 wd_558 wd_618 ⟨by decide +kernel, by decide +kernel, by decide +kernel⟩ (by decide)))
    (ok_leaf (ok_if_ne (show decode cX11_isRead 50 = .ok (.ifCond .ne 5, 3) by decide +kernel) (by decide +kernel))))
    (ok_node
    (ok_leaf (ok_iconst (show decode cX11_isRead 53 = .ok (.iconst 0, 1) by decide +kernel) (by decide +kernel)))
    (ok_leaf (ok_zreturn (show decode cX11_isRead 54 = .ok (.ireturn, 1) by decide +kernel) rfl))))
    (ok_node
    (ok_node
    (ok_leaf (ok_aload_n (show decode cX11_isRead 55 = .ok (.aload_n 0, 1) by decide +kernel) rfl))
    (ok_leaf (ok_callV (C := RX11) (T := TX11) (N := 31) (Mc := M_X11_blanks) (show decode cX11_isRead 56 = .ok (.invokevirtual 113, 3) by decide +kernel) rfl (by decide) (by decide +kernel) rfl rfl wd_590 wd_591 wd_592 wd_558 wd_593 ⟨by decide +kernel, by decide +kernel, by decide +kernel⟩ (by decide))))
    (ok_node
    (ok_leaf (ok_goto (show decode cX11_isRead 59 = .ok (.goto (-24), 3) by decide +kernel) (by decide +kernel)))
    (ok_node
    (ok_leaf (ok_iconst (show decode cX11_isRead 62 = .ok (.iconst 1, 1) by decide +kernel) (by decide +kernel)))
    (ok_leaf (ok_zreturn (show decode cX11_isRead 63 = .ok (.ireturn, 1) by decide +kernel) rfl)))))))
set_option maxRecDepth 20000 in
set_option maxHeartbeats 4000000 in
theorem ok_X11_reads {sc : List Int32} : ∀ pc, pOk mtOf 189 M_X11_reads false sc pc (cd_X11_reads pc) := by
  unfold cd_X11_reads
  exact ok_node
    (ok_node
    (ok_node
    (ok_node
    (ok_leaf (ok_aload_n (show decode cX11_reads 0 = .ok (.aload_n 0, 1) by decide +kernel) rfl))
    (ok_node
    (ok_leaf (ok_callV (C := RX11) (T := TX11) (N := 31) (Mc := M_X11_isRead) (show decode cX11_reads 1 = .ok (.invokevirtual 141, 3) by decide +kernel) rfl (by decide) (by decide +kernel) rfl rfl wd_619 wd_620 wd_621 wd_558 wd_622 ⟨by decide +kernel, by decide +kernel, by decide +kernel⟩ (by decide)))
    (ok_leaf (ok_if_ne (show decode cX11_reads 4 = .ok (.ifCond .ne 11, 3) by decide +kernel) (by decide +kernel)))))
    (ok_node
    (ok_node
    (ok_leaf (ok_bipush (show decode cX11_reads 7 = .ok (.bipush (-10), 2) by decide +kernel) (by decide +kernel)))
    (ok_leaf (ok_aload_n (show decode cX11_reads 9 = .ok (.aload_n 0, 1) by decide +kernel) rfl)))
    (ok_node
    (ok_leaf (ok_getfield (show decode cX11_reads 10 = .ok (.getfield 110, 3) by decide +kernel) (Or.inl (fd_X11 (by decide) wd_589 rfl rfl))))
    (ok_leaf (ok_isub (show decode cX11_reads 13 = .ok (.isub, 1) by decide +kernel))))))
    (ok_node
    (ok_node
    (ok_node
    (ok_leaf (ok_ireturn (show decode cX11_reads 14 = .ok (.ireturn, 1) by decide +kernel) rfl))
    (ok_leaf (ok_aload_n (show decode cX11_reads 15 = .ok (.aload_n 0, 1) by decide +kernel) rfl)))
    (ok_node
    (ok_leaf (ok_callV (C := RX11) (T := TX11) (N := 31) (Mc := M_X11_leaves) (show decode cX11_reads 16 = .ok (.invokevirtual 144, 3) by decide +kernel) rfl (by decide) (by decide +kernel) rfl rfl wd_623 wd_624 wd_625 wd_558 wd_626 ⟨by decide +kernel, by decide +kernel, by decide +kernel⟩ (by decide)))
    (ok_leaf (ok_iconst (show decode cX11_reads 19 = .ok (.iconst 0, 1) by decide +kernel) (by decide +kernel)))))
    (ok_node
    (ok_node
    (ok_leaf (ok_istore_n (show decode cX11_reads 20 = .ok (.istore_n 1, 1) by decide +kernel) rfl))
    (ok_leaf (ok_iload_n (show decode cX11_reads 21 = .ok (.iload_n 1, 1) by decide +kernel) rfl)))
    (ok_node
    (ok_leaf (ok_bipush (show decode cX11_reads 22 = .ok (.bipush 49, 2) by decide +kernel) (by decide +kernel)))
    (ok_leaf (ok_icmp_ge (show decode cX11_reads 24 = .ok (.if_icmp .ge 21, 3) by decide +kernel) (by decide +kernel)))))))
    (ok_node
    (ok_node
    (ok_node
    (ok_leaf (ok_aload_n (show decode cX11_reads 27 = .ok (.aload_n 0, 1) by decide +kernel) rfl))
    (ok_node
    (ok_leaf (ok_getfield (show decode cX11_reads 28 = .ok (.getfield 7, 3) by decide +kernel) (Or.inr (fdF_X11 (by decide) wd_536 rfl rfl))))
    (ok_leaf (ok_iload_n (show decode cX11_reads 31 = .ok (.iload_n 1, 1) by decide +kernel) rfl))))
    (ok_node
    (ok_node
    (ok_leaf (ok_aload_n (show decode cX11_reads 32 = .ok (.aload_n 0, 1) by decide +kernel) rfl))
    (ok_leaf (ok_getfield (show decode cX11_reads 33 = .ok (.getfield 13, 3) by decide +kernel) (Or.inr (fdF_X11 (by decide) wd_537 rfl rfl)))))
    (ok_node
    (ok_leaf (ok_iload_n (show decode cX11_reads 36 = .ok (.iload_n 1, 1) by decide +kernel) rfl))
    (ok_leaf (ok_iaload (show decode cX11_reads 37 = .ok (.iaload, 1) by decide +kernel))))))
    (ok_node
    (ok_node
    (ok_node
    (ok_leaf (ok_iastore (show decode cX11_reads 38 = .ok (.iastore, 1) by decide +kernel)))
    (ok_leaf (ok_iinc (show decode cX11_reads 39 = .ok (.iinc 1 1, 3) by decide +kernel) (by decide +kernel))))
    (ok_node
    (ok_leaf (ok_goto (show decode cX11_reads 42 = .ok (.goto (-21), 3) by decide +kernel) (by decide +kernel)))
    (ok_leaf (ok_aload_n (show decode cX11_reads 45 = .ok (.aload_n 0, 1) by decide +kernel) rfl))))
    (ok_node
    (ok_node
    (ok_leaf (ok_getfield (show decode cX11_reads 46 = .ok (.getfield 7, 3) by decide +kernel) (Or.inr (fdF_X11 (by decide) wd_536 rfl rfl))))
    (ok_leaf (ok_iconst (show decode cX11_reads 49 = .ok (.iconst 0, 1) by decide +kernel) (by decide +kernel))))
    (ok_node
    (ok_leaf (ok_iaload (show decode cX11_reads 50 = .ok (.iaload, 1) by decide +kernel)))
    (ok_leaf (ok_ireturn (show decode cX11_reads 51 = .ok (.ireturn, 1) by decide +kernel) rfl))))))
set_option maxRecDepth 20000 in
set_option maxHeartbeats 4000000 in
theorem ok_X11_isEquation {sc : List Int32} : ∀ pc, pOk mtOf 189 M_X11_isEquation false sc pc (cd_X11_isEquation pc) := by
  unfold cd_X11_isEquation
  exact ok_node
    (ok_node
    (ok_node
    (ok_leaf (ok_iload_n (show decode cX11_isEquation 0 = .ok (.iload_n 1, 1) by decide +kernel) rfl))
    (ok_leaf (ok_iconst (show decode cX11_isEquation 1 = .ok (.iconst 0, 1) by decide +kernel) (by decide +kernel))))
    (ok_node
    (ok_leaf (ok_aload_n (show decode cX11_isEquation 2 = .ok (.aload_n 0, 1) by decide +kernel) rfl))
    (ok_node
    (ok_leaf (ok_getfield (show decode cX11_isEquation 3 = .ok (.getfield 7, 3) by decide +kernel) (Or.inr (fdF_X11 (by decide) wd_536 rfl rfl))))
    (ok_leaf (ok_iconst (show decode cX11_isEquation 6 = .ok (.iconst 0, 1) by decide +kernel) (by decide +kernel))))))
    (ok_node
    (ok_node
    (ok_leaf (ok_iaload (show decode cX11_isEquation 7 = .ok (.iaload, 1) by decide +kernel)))
    (ok_leaf (ok_iconst (show decode cX11_isEquation 8 = .ok (.iconst 1, 1) by decide +kernel) (by decide +kernel))))
    (ok_node
    (ok_leaf (ok_isub (show decode cX11_isEquation 9 = .ok (.isub, 1) by decide +kernel)))
    (ok_node
    (ok_leaf (ok_callS (Mc := M_X11_within) (show decode cX11_isEquation 10 = .ok (.invokestatic 82, 3) by decide +kernel) rfl (by decide) (by decide +kernel) wd_566 wd_567 wd_558 wd_568 ⟨by decide +kernel, by decide +kernel, by decide +kernel⟩ (by decide)))
    (ok_leaf (ok_zreturn (show decode cX11_isEquation 13 = .ok (.ireturn, 1) by decide +kernel) rfl)))))
set_option maxRecDepth 20000 in
set_option maxHeartbeats 4000000 in
theorem ok_X11_isSide {sc : List Int32} : ∀ pc, pOk mtOf 189 M_X11_isSide false sc pc (cd_X11_isSide pc) := by
  unfold cd_X11_isSide
  exact ok_node
    (ok_node
    (ok_node
    (ok_leaf (ok_iload_n (show decode cX11_isSide 0 = .ok (.iload_n 0, 1) by decide +kernel) rfl))
    (ok_leaf (ok_if_eq (show decode cX11_isSide 1 = .ok (.ifCond .eq 8, 3) by decide +kernel) (by decide +kernel))))
    (ok_node
    (ok_leaf (ok_iload_n (show decode cX11_isSide 4 = .ok (.iload_n 0, 1) by decide +kernel) rfl))
    (ok_leaf (ok_iconst (show decode cX11_isSide 5 = .ok (.iconst 1, 1) by decide +kernel) (by decide +kernel)))))
    (ok_node
    (ok_node
    (ok_leaf (ok_icmp_ne (show decode cX11_isSide 6 = .ok (.if_icmp .ne 7, 3) by decide +kernel) (by decide +kernel)))
    (ok_leaf (ok_iconst (show decode cX11_isSide 9 = .ok (.iconst 1, 1) by decide +kernel) (by decide +kernel))))
    (ok_node
    (ok_leaf (ok_goto (show decode cX11_isSide 10 = .ok (.goto 4, 3) by decide +kernel) (by decide +kernel)))
    (ok_node
    (ok_leaf (ok_iconst (show decode cX11_isSide 13 = .ok (.iconst 0, 1) by decide +kernel) (by decide +kernel)))
    (ok_leaf (ok_zreturn (show decode cX11_isSide 14 = .ok (.ireturn, 1) by decide +kernel) rfl)))))
set_option maxRecDepth 20000 in
set_option maxHeartbeats 4000000 in
theorem ok_X11_nodesOf {sc : List Int32} : ∀ pc, pOk mtOf 189 M_X11_nodesOf false sc pc (cd_X11_nodesOf pc) := by
  unfold cd_X11_nodesOf
  exact ok_node
    (ok_node
    (ok_node
    (ok_leaf (ok_aload_n (show decode cX11_nodesOf 0 = .ok (.aload_n 0, 1) by decide +kernel) rfl))
    (ok_leaf (ok_getfield (show decode cX11_nodesOf 1 = .ok (.getfield 7, 3) by decide +kernel) (Or.inr (fdF_X11 (by decide) wd_536 rfl rfl)))))
    (ok_node
    (ok_leaf (ok_iconst (show decode cX11_nodesOf 4 = .ok (.iconst 1, 1) by decide +kernel) (by decide +kernel)))
    (ok_node
    (ok_leaf (ok_iconst (show decode cX11_nodesOf 5 = .ok (.iconst 2, 1) by decide +kernel) (by decide +kernel)))
    (ok_leaf (ok_iload_n (show decode cX11_nodesOf 6 = .ok (.iload_n 1, 1) by decide +kernel) rfl)))))
    (ok_node
    (ok_node
    (ok_leaf (ok_imul (show decode cX11_nodesOf 7 = .ok (.imul, 1) by decide +kernel)))
    (ok_node
    (ok_leaf (ok_iadd (show decode cX11_nodesOf 8 = .ok (.iadd, 1) by decide +kernel)))
    (ok_leaf (ok_iload_n (show decode cX11_nodesOf 9 = .ok (.iload_n 2, 1) by decide +kernel) rfl))))
    (ok_node
    (ok_leaf (ok_iadd (show decode cX11_nodesOf 10 = .ok (.iadd, 1) by decide +kernel)))
    (ok_node
    (ok_leaf (ok_iaload (show decode cX11_nodesOf 11 = .ok (.iaload, 1) by decide +kernel)))
    (ok_leaf (ok_ireturn (show decode cX11_nodesOf 12 = .ok (.ireturn, 1) by decide +kernel) rfl)))))
set_option maxRecDepth 20000 in
set_option maxHeartbeats 4000000 in
theorem ok_X11_beginOf {sc : List Int32} : ∀ pc, pOk mtOf 189 M_X11_beginOf false sc pc (cd_X11_beginOf pc) := by
  unfold cd_X11_beginOf
  exact ok_node
    (ok_node
    (ok_node
    (ok_node
    (ok_leaf (ok_bipush (show decode cX11_beginOf 0 = .ok (.bipush 9, 2) by decide +kernel) (by decide +kernel)))
    (ok_node
    (ok_leaf (ok_istore_n (show decode cX11_beginOf 2 = .ok (.istore_n 3, 1) by decide +kernel) rfl))
    (ok_leaf (ok_iconst (show decode cX11_beginOf 3 = .ok (.iconst 0, 1) by decide +kernel) (by decide +kernel)))))
    (ok_node
    (ok_leaf (ok_istore (show decode cX11_beginOf 4 = .ok (.istore 4, 2) by decide +kernel)))
    (ok_node
    (ok_leaf (ok_iload (show decode cX11_beginOf 6 = .ok (.iload 4, 2) by decide +kernel)))
    (ok_leaf (ok_iconst (show decode cX11_beginOf 8 = .ok (.iconst 2, 1) by decide +kernel) (by decide +kernel))))))
    (ok_node
    (ok_node
    (ok_leaf (ok_iload_n (show decode cX11_beginOf 9 = .ok (.iload_n 1, 1) by decide +kernel) rfl))
    (ok_node
    (ok_leaf (ok_imul (show decode cX11_beginOf 10 = .ok (.imul, 1) by decide +kernel)))
    (ok_leaf (ok_iload_n (show decode cX11_beginOf 11 = .ok (.iload_n 2, 1) by decide +kernel) rfl))))
    (ok_node
    (ok_leaf (ok_iadd (show decode cX11_beginOf 12 = .ok (.iadd, 1) by decide +kernel)))
    (ok_node
    (ok_leaf (ok_icmp_ge (show decode cX11_beginOf 13 = .ok (.if_icmp .ge 21, 3) by decide +kernel) (by decide +kernel)))
    (ok_leaf (ok_iload_n (show decode cX11_beginOf 16 = .ok (.iload_n 3, 1) by decide +kernel) rfl))))))
    (ok_node
    (ok_node
    (ok_node
    (ok_leaf (ok_aload_n (show decode cX11_beginOf 17 = .ok (.aload_n 0, 1) by decide +kernel) rfl))
    (ok_node
    (ok_leaf (ok_getfield (show decode cX11_beginOf 18 = .ok (.getfield 7, 3) by decide +kernel) (Or.inr (fdF_X11 (by decide) wd_536 rfl rfl))))
    (ok_leaf (ok_iconst (show decode cX11_beginOf 21 = .ok (.iconst 1, 1) by decide +kernel) (by decide +kernel)))))
    (ok_node
    (ok_leaf (ok_iload (show decode cX11_beginOf 22 = .ok (.iload 4, 2) by decide +kernel)))
    (ok_node
    (ok_leaf (ok_iadd (show decode cX11_beginOf 24 = .ok (.iadd, 1) by decide +kernel)))
    (ok_leaf (ok_iaload (show decode cX11_beginOf 25 = .ok (.iaload, 1) by decide +kernel))))))
    (ok_node
    (ok_node
    (ok_leaf (ok_iadd (show decode cX11_beginOf 26 = .ok (.iadd, 1) by decide +kernel)))
    (ok_node
    (ok_leaf (ok_istore_n (show decode cX11_beginOf 27 = .ok (.istore_n 3, 1) by decide +kernel) rfl))
    (ok_leaf (ok_iinc (show decode cX11_beginOf 28 = .ok (.iinc 4 1, 3) by decide +kernel) (by decide +kernel)))))
    (ok_node
    (ok_leaf (ok_goto (show decode cX11_beginOf 31 = .ok (.goto (-25), 3) by decide +kernel) (by decide +kernel)))
    (ok_node
    (ok_leaf (ok_iload_n (show decode cX11_beginOf 34 = .ok (.iload_n 3, 1) by decide +kernel) rfl))
    (ok_leaf (ok_ireturn (show decode cX11_beginOf 35 = .ok (.ireturn, 1) by decide +kernel) rfl))))))
