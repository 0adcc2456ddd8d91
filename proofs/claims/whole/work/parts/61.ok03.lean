set_option maxRecDepth 20000 in
set_option maxHeartbeats 4000000 in
theorem ok_X8_erase {sc : List Int32} : ∀ pc, pOk mtOf 189 M_X8_erase false sc pc (cd_X8_erase pc) := by
  unfold cd_X8_erase
  exact ok_node
    (ok_node
    (ok_leaf (ok_aload_n (show decode cX8_erase 0 = .ok (.aload_n 0, 1) by decide +kernel) rfl))
    (ok_leaf (ok_iconst (show decode cX8_erase 1 = .ok (.iconst 0, 1) by decide +kernel) (by decide +kernel))))
    (ok_node
    (ok_leaf (ok_putI (show decode cX8_erase 2 = .ok (.putfield 20, 3) by decide +kernel) (Or.inl (fd_X8 (by decide) wd_293 rfl rfl)) rfl))
    (ok_leaf (ok_return (show decode cX8_erase 5 = .ok (.return_, 1) by decide +kernel) rfl)))
set_option maxRecDepth 20000 in
set_option maxHeartbeats 4000000 in
theorem ok_X8_append {sc : List Int32} : ∀ pc, pOk mtOf 189 M_X8_append false sc pc (cd_X8_append pc) := by
  unfold cd_X8_append
  exact ok_node
    (ok_node
    (ok_node
    (ok_node
    (ok_leaf (ok_aload_n (show decode cX8_append 0 = .ok (.aload_n 0, 1) by decide +kernel) rfl))
    (ok_leaf (ok_getfield (show decode cX8_append 1 = .ok (.getfield 20, 3) by decide +kernel) (Or.inl (fd_X8 (by decide) wd_293 rfl rfl)))))
    (ok_node
    (ok_leaf (ok_bipush (show decode cX8_append 4 = .ok (.bipush 120, 2) by decide +kernel) (by decide +kernel)))
    (ok_node
    (ok_leaf (ok_icmp_lt (show decode cX8_append 6 = .ok (.if_icmp .lt 5, 3) by decide +kernel) (by decide +kernel)))
    (ok_leaf (ok_iconst (show decode cX8_append 9 = .ok (.iconst 0, 1) by decide +kernel) (by decide +kernel))))))
    (ok_node
    (ok_node
    (ok_leaf (ok_zreturn (show decode cX8_append 10 = .ok (.ireturn, 1) by decide +kernel) rfl))
    (ok_leaf (ok_aload_n (show decode cX8_append 11 = .ok (.aload_n 0, 1) by decide +kernel) rfl)))
    (ok_node
    (ok_leaf (ok_getfield (show decode cX8_append 12 = .ok (.getfield 11, 3) by decide +kernel) (Or.inr (fdF_X8 (by decide) wd_291 rfl rfl))))
    (ok_node
    (ok_leaf (ok_aload_n (show decode cX8_append 15 = .ok (.aload_n 0, 1) by decide +kernel) rfl))
    (ok_leaf (ok_getfield (show decode cX8_append 16 = .ok (.getfield 20, 3) by decide +kernel) (Or.inl (fd_X8 (by decide) wd_293 rfl rfl))))))))
    (ok_node
    (ok_node
    (ok_node
    (ok_leaf (ok_iload_n (show decode cX8_append 19 = .ok (.iload_n 1, 1) by decide +kernel) rfl))
    (ok_leaf (ok_iastore (show decode cX8_append 20 = .ok (.iastore, 1) by decide +kernel))))
    (ok_node
    (ok_leaf (ok_aload_n (show decode cX8_append 21 = .ok (.aload_n 0, 1) by decide +kernel) rfl))
    (ok_node
    (ok_leaf (ok_dup (show decode cX8_append 22 = .ok (.dup, 1) by decide +kernel)))
    (ok_leaf (ok_getfield (show decode cX8_append 23 = .ok (.getfield 20, 3) by decide +kernel) (Or.inl (fd_X8 (by decide) wd_293 rfl rfl)))))))
    (ok_node
    (ok_node
    (ok_leaf (ok_iconst (show decode cX8_append 26 = .ok (.iconst 1, 1) by decide +kernel) (by decide +kernel)))
    (ok_leaf (ok_iadd (show decode cX8_append 27 = .ok (.iadd, 1) by decide +kernel))))
    (ok_node
    (ok_leaf (ok_putI (show decode cX8_append 28 = .ok (.putfield 20, 3) by decide +kernel) (Or.inl (fd_X8 (by decide) wd_293 rfl rfl)) rfl))
    (ok_node
    (ok_leaf (ok_iconst (show decode cX8_append 31 = .ok (.iconst 1, 1) by decide +kernel) (by decide +kernel)))
    (ok_leaf (ok_zreturn (show decode cX8_append 32 = .ok (.ireturn, 1) by decide +kernel) rfl))))))
set_option maxRecDepth 20000 in
set_option maxHeartbeats 4000000 in
theorem ok_X8_readInto {sc : List Int32} : ∀ pc, pOk mtOf 189 M_X8_readInto false sc pc (cd_X8_readInto pc) := by
  unfold cd_X8_readInto
  exact ok_node
    (ok_node
    (ok_node
    (ok_node
    (ok_node
    (ok_leaf (ok_aload_n (show decode cX8_readInto 0 = .ok (.aload_n 1, 1) by decide +kernel) rfl))
    (ok_leaf (ok_callV (C := RX2) (T := TX2) (N := 7) (Mc := M_X2_erase) (show decode cX8_readInto 1 = .ok (.invokevirtual 24, 3) by decide +kernel) rfl (by decide) (by decide +kernel) rfl rfl wd_294 wd_295 wd_296 wd_58 wd_297 ⟨by decide +kernel, by decide +kernel, by decide +kernel⟩ (by decide))))
    (ok_node
    (ok_leaf (ok_aload_n (show decode cX8_readInto 4 = .ok (.aload_n 0, 1) by decide +kernel) rfl))
    (ok_node
    (ok_leaf (ok_iconst (show decode cX8_readInto 5 = .ok (.iconst 0, 1) by decide +kernel) (by decide +kernel)))
    (ok_leaf (ok_putI (show decode cX8_readInto 6 = .ok (.putfield 27, 3) by decide +kernel) (Or.inl (fd_X8 (by decide) wd_298 rfl rfl)) rfl)))))
    (ok_node
    (ok_node
    (ok_leaf (ok_aload_n (show decode cX8_readInto 9 = .ok (.aload_n 0, 1) by decide +kernel) rfl))
    (ok_leaf (ok_iconst (show decode cX8_readInto 10 = .ok (.iconst 0, 1) by decide +kernel) (by decide +kernel))))
    (ok_node
    (ok_leaf (ok_putI (show decode cX8_readInto 11 = .ok (.putfield 30, 3) by decide +kernel) (Or.inl (fd_X8 (by decide) wd_299 rfl rfl)) rfl))
    (ok_node
    (ok_leaf (ok_iconst (show decode cX8_readInto 14 = .ok (.iconst 0, 1) by decide +kernel) (by decide +kernel)))
    (ok_leaf (ok_istore_n (show decode cX8_readInto 15 = .ok (.istore_n 2, 1) by decide +kernel) rfl))))))
    (ok_node
    (ok_node
    (ok_node
    (ok_leaf (ok_iload_n (show decode cX8_readInto 16 = .ok (.iload_n 2, 1) by decide +kernel) rfl))
    (ok_leaf (ok_aload_n (show decode cX8_readInto 17 = .ok (.aload_n 0, 1) by decide +kernel) rfl)))
    (ok_node
    (ok_leaf (ok_getfield (show decode cX8_readInto 18 = .ok (.getfield 20, 3) by decide +kernel) (Or.inl (fd_X8 (by decide) wd_293 rfl rfl))))
    (ok_node
    (ok_leaf (ok_icmp_ge (show decode cX8_readInto 21 = .ok (.if_icmp .ge 42, 3) by decide +kernel) (by decide +kernel)))
    (ok_leaf (ok_iload_n (show decode cX8_readInto 24 = .ok (.iload_n 2, 1) by decide +kernel) rfl)))))
    (ok_node
    (ok_node
    (ok_leaf (ok_bipush (show decode cX8_readInto 25 = .ok (.bipush 120, 2) by decide +kernel) (by decide +kernel)))
    (ok_node
    (ok_leaf (ok_icmp_ge (show decode cX8_readInto 27 = .ok (.if_icmp .ge 36, 3) by decide +kernel) (by decide +kernel)))
    (ok_leaf (ok_aload_n (show decode cX8_readInto 30 = .ok (.aload_n 0, 1) by decide +kernel) rfl))))
    (ok_node
    (ok_leaf (ok_getfield (show decode cX8_readInto 31 = .ok (.getfield 11, 3) by decide +kernel) (Or.inr (fdF_X8 (by decide) wd_291 rfl rfl))))
    (ok_node
    (ok_leaf (ok_iload_n (show decode cX8_readInto 34 = .ok (.iload_n 2, 1) by decide +kernel) rfl))
    (ok_leaf (ok_iaload (show decode cX8_readInto 35 = .ok (.iaload, 1) by decide +kernel))))))))
    (ok_node
    (ok_node
    (ok_node
    (ok_node
    (ok_leaf (ok_bipush (show decode cX8_readInto 36 = .ok (.bipush 32, 2) by decide +kernel) (by decide +kernel)))
    (ok_leaf (ok_icmp_eq (show decode cX8_readInto 38 = .ok (.if_icmp .eq 19, 3) by decide +kernel) (by decide +kernel))))
    (ok_node
    (ok_leaf (ok_aload_n (show decode cX8_readInto 41 = .ok (.aload_n 0, 1) by decide +kernel) rfl))
    (ok_node
    (ok_leaf (ok_aload_n (show decode cX8_readInto 42 = .ok (.aload_n 0, 1) by decide +kernel) rfl))
    (ok_leaf (ok_getfield (show decode cX8_readInto 43 = .ok (.getfield 11, 3) by decide +kernel) (Or.inr (fdF_X8 (by decide) wd_291 rfl rfl)))))))
    (ok_node
    (ok_node
    (ok_leaf (ok_iload_n (show decode cX8_readInto 46 = .ok (.iload_n 2, 1) by decide +kernel) rfl))
    (ok_node
    (ok_leaf (ok_iaload (show decode cX8_readInto 47 = .ok (.iaload, 1) by decide +kernel)))
    (ok_leaf (ok_aload_n (show decode cX8_readInto 48 = .ok (.aload_n 1, 1) by decide +kernel) rfl))))
    (ok_node
    (ok_leaf (ok_callV (C := RX8) (T := TX8) (N := 5) (Mc := M_X8_accepts) (show decode cX8_readInto 49 = .ok (.invokevirtual 33, 3) by decide +kernel) rfl (by decide) (by decide +kernel) rfl rfl wd_300 wd_301 wd_302 wd_303 wd_304 ⟨by decide +kernel, by decide +kernel, by decide +kernel⟩ (by decide)))
    (ok_node
    (ok_leaf (ok_if_ne (show decode cX8_readInto 52 = .ok (.ifCond .ne 5, 3) by decide +kernel) (by decide +kernel)))
    (ok_leaf (ok_iload_n (show decode cX8_readInto 55 = .ok (.iload_n 2, 1) by decide +kernel) rfl))))))
    (ok_node
    (ok_node
    (ok_node
    (ok_leaf (ok_ireturn (show decode cX8_readInto 56 = .ok (.ireturn, 1) by decide +kernel) rfl))
    (ok_leaf (ok_iinc (show decode cX8_readInto 57 = .ok (.iinc 2 1, 3) by decide +kernel) (by decide +kernel))))
    (ok_node
    (ok_leaf (ok_goto (show decode cX8_readInto 60 = .ok (.goto (-44), 3) by decide +kernel) (by decide +kernel)))
    (ok_node
    (ok_leaf (ok_aload_n (show decode cX8_readInto 63 = .ok (.aload_n 0, 1) by decide +kernel) rfl))
    (ok_leaf (ok_getfield (show decode cX8_readInto 64 = .ok (.getfield 30, 3) by decide +kernel) (Or.inl (fd_X8 (by decide) wd_299 rfl rfl)))))))
    (ok_node
    (ok_node
    (ok_leaf (ok_if_ne (show decode cX8_readInto 67 = .ok (.ifCond .ne 7, 3) by decide +kernel) (by decide +kernel)))
    (ok_node
    (ok_leaf (ok_iconst (show decode cX8_readInto 70 = .ok (.iconst (-1), 1) by decide +kernel) (by decide +kernel)))
    (ok_leaf (ok_goto (show decode cX8_readInto 71 = .ok (.goto 7, 3) by decide +kernel) (by decide +kernel)))))
    (ok_node
    (ok_leaf (ok_aload_n (show decode cX8_readInto 74 = .ok (.aload_n 0, 1) by decide +kernel) rfl))
    (ok_node
    (ok_leaf (ok_getfield (show decode cX8_readInto 75 = .ok (.getfield 20, 3) by decide +kernel) (Or.inl (fd_X8 (by decide) wd_293 rfl rfl))))
    (ok_leaf (ok_ireturn (show decode cX8_readInto 78 = .ok (.ireturn, 1) by decide +kernel) rfl)))))))
set_option maxRecDepth 20000 in
set_option maxHeartbeats 4000000 in
theorem ok_X8_accepts {sc : List Int32} : ∀ pc, pOk mtOf 189 M_X8_accepts false sc pc (cd_X8_accepts pc) := by
  unfold cd_X8_accepts
  exact ok_node
    (ok_node
    (ok_node
    (ok_node
    (ok_leaf (ok_aload_n (show decode cX8_accepts 0 = .ok (.aload_n 0, 1) by decide +kernel) rfl))
    (ok_node
    (ok_leaf (ok_getfield (show decode cX8_accepts 1 = .ok (.getfield 30, 3) by decide +kernel) (Or.inl (fd_X8 (by decide) wd_299 rfl rfl))))
    (ok_leaf (ok_table (show decode cX8_accepts 4 = .ok (.tableswitch 52 0 2 #[28, 28, 35], 28) by decide +kernel) (by decide +kernel) (by decide +kernel) (by decide +kernel) (by decide +kernel)))))
    (ok_node
    (ok_node
    (ok_leaf (ok_aload_n (show decode cX8_accepts 32 = .ok (.aload_n 0, 1) by decide +kernel) rfl))
    (ok_leaf (ok_iload_n (show decode cX8_accepts 33 = .ok (.iload_n 1, 1) by decide +kernel) rfl)))
    (ok_node
    (ok_leaf (ok_aload_n (show decode cX8_accepts 34 = .ok (.aload_n 2, 1) by decide +kernel) rfl))
    (ok_leaf (ok_callV (C := RX8) (T := TX8) (N := 5) (Mc := M_X8_acceptsLetter) (show decode cX8_accepts 35 = .ok (.invokevirtual 37, 3) by decide +kernel) rfl (by decide) (by decide +kernel) rfl rfl wd_305 wd_306 wd_307 wd_303 wd_308 ⟨by decide +kernel, by decide +kernel, by decide +kernel⟩ (by decide))))))
    (ok_node
    (ok_node
    (ok_node
    (ok_leaf (ok_zreturn (show decode cX8_accepts 38 = .ok (.ireturn, 1) by decide +kernel) rfl))
    (ok_leaf (ok_aload_n (show decode cX8_accepts 39 = .ok (.aload_n 0, 1) by decide +kernel) rfl)))
    (ok_node
    (ok_leaf (ok_iconst (show decode cX8_accepts 40 = .ok (.iconst 1, 1) by decide +kernel) (by decide +kernel)))
    (ok_leaf (ok_putI (show decode cX8_accepts 41 = .ok (.putfield 30, 3) by decide +kernel) (Or.inl (fd_X8 (by decide) wd_299 rfl rfl)) rfl))))
    (ok_node
    (ok_node
    (ok_leaf (ok_iload_n (show decode cX8_accepts 44 = .ok (.iload_n 1, 1) by decide +kernel) rfl))
    (ok_leaf (ok_bipush (show decode cX8_accepts 45 = .ok (.bipush 40, 2) by decide +kernel) (by decide +kernel))))
    (ok_node
    (ok_leaf (ok_icmp_ne (show decode cX8_accepts 47 = .ok (.if_icmp .ne 7, 3) by decide +kernel) (by decide +kernel)))
    (ok_leaf (ok_iconst (show decode cX8_accepts 50 = .ok (.iconst 1, 1) by decide +kernel) (by decide +kernel)))))))
    (ok_node
    (ok_node
    (ok_node
    (ok_leaf (ok_goto (show decode cX8_accepts 51 = .ok (.goto 4, 3) by decide +kernel) (by decide +kernel)))
    (ok_node
    (ok_leaf (ok_iconst (show decode cX8_accepts 54 = .ok (.iconst 0, 1) by decide +kernel) (by decide +kernel)))
    (ok_leaf (ok_zreturn (show decode cX8_accepts 55 = .ok (.ireturn, 1) by decide +kernel) rfl))))
    (ok_node
    (ok_node
    (ok_leaf (ok_aload_n (show decode cX8_accepts 56 = .ok (.aload_n 0, 1) by decide +kernel) rfl))
    (ok_leaf (ok_getfield (show decode cX8_accepts 57 = .ok (.getfield 27, 3) by decide +kernel) (Or.inl (fd_X8 (by decide) wd_298 rfl rfl)))))
    (ok_node
    (ok_leaf (ok_if_le (show decode cX8_accepts 60 = .ok (.ifCond .le 11, 3) by decide +kernel) (by decide +kernel)))
    (ok_leaf (ok_aload_n (show decode cX8_accepts 63 = .ok (.aload_n 0, 1) by decide +kernel) rfl)))))
    (ok_node
    (ok_node
    (ok_node
    (ok_leaf (ok_iload_n (show decode cX8_accepts 64 = .ok (.iload_n 1, 1) by decide +kernel) rfl))
    (ok_leaf (ok_callV (C := RX8) (T := TX8) (N := 5) (Mc := M_X8_acceptsInside) (show decode cX8_accepts 65 = .ok (.invokevirtual 40, 3) by decide +kernel) rfl (by decide) (by decide +kernel) rfl rfl wd_309 wd_310 wd_311 wd_303 wd_312 ⟨by decide +kernel, by decide +kernel, by decide +kernel⟩ (by decide))))
    (ok_node
    (ok_leaf (ok_goto (show decode cX8_accepts 68 = .ok (.goto 9, 3) by decide +kernel) (by decide +kernel)))
    (ok_leaf (ok_aload_n (show decode cX8_accepts 71 = .ok (.aload_n 0, 1) by decide +kernel) rfl))))
    (ok_node
    (ok_node
    (ok_leaf (ok_iload_n (show decode cX8_accepts 72 = .ok (.iload_n 1, 1) by decide +kernel) rfl))
    (ok_leaf (ok_aload_n (show decode cX8_accepts 73 = .ok (.aload_n 2, 1) by decide +kernel) rfl)))
    (ok_node
    (ok_leaf (ok_callV (C := RX8) (T := TX8) (N := 5) (Mc := M_X8_acceptsOutside) (show decode cX8_accepts 74 = .ok (.invokevirtual 44, 3) by decide +kernel) rfl (by decide) (by decide +kernel) rfl rfl wd_313 wd_314 wd_315 wd_303 wd_316 ⟨by decide +kernel, by decide +kernel, by decide +kernel⟩ (by decide)))
    (ok_leaf (ok_zreturn (show decode cX8_accepts 77 = .ok (.ireturn, 1) by decide +kernel) rfl))))))
set_option maxRecDepth 20000 in
set_option maxHeartbeats 4000000 in
theorem ok_X8_acceptsLetter {sc : List Int32} : ∀ pc, pOk mtOf 189 M_X8_acceptsLetter false sc pc (cd_X8_acceptsLetter pc) := by
  unfold cd_X8_acceptsLetter
  exact ok_node
    (ok_node
    (ok_node
    (ok_node
    (ok_node
    (ok_leaf (ok_iload_n (show decode cX8_acceptsLetter 0 = .ok (.iload_n 1, 1) by decide +kernel) rfl))
    (ok_leaf (ok_callS (Mc := M_X5_kind) (show decode cX8_acceptsLetter 1 = .ok (.invokestatic 47, 3) by decide +kernel) rfl (by decide) (by decide +kernel) wd_317 wd_36 wd_28 wd_37 ⟨by decide +kernel, by decide +kernel, by decide +kernel⟩ (by decide))))
    (ok_node
    (ok_leaf (ok_iconst (show decode cX8_acceptsLetter 4 = .ok (.iconst (-1), 1) by decide +kernel) (by decide +kernel)))
    (ok_node
    (ok_leaf (ok_icmp_eq (show decode cX8_acceptsLetter 5 = .ok (.if_icmp .eq 11, 3) by decide +kernel) (by decide +kernel)))
    (ok_leaf (ok_aload_n (show decode cX8_acceptsLetter 8 = .ok (.aload_n 2, 1) by decide +kernel) rfl)))))
    (ok_node
    (ok_node
    (ok_leaf (ok_iload_n (show decode cX8_acceptsLetter 9 = .ok (.iload_n 1, 1) by decide +kernel) rfl))
    (ok_leaf (ok_callV (C := RX2) (T := TX2) (N := 7) (Mc := M_X2_append) (show decode cX8_acceptsLetter 10 = .ok (.invokevirtual 53, 3) by decide +kernel) rfl (by decide) (by decide +kernel) rfl rfl wd_318 wd_319 wd_320 wd_58 wd_321 ⟨by decide +kernel, by decide +kernel, by decide +kernel⟩ (by decide))))
    (ok_node
    (ok_leaf (ok_if_ne (show decode cX8_acceptsLetter 13 = .ok (.ifCond .ne 5, 3) by decide +kernel) (by decide +kernel)))
    (ok_node
    (ok_leaf (ok_iconst (show decode cX8_acceptsLetter 16 = .ok (.iconst 0, 1) by decide +kernel) (by decide +kernel)))
    (ok_leaf (ok_zreturn (show decode cX8_acceptsLetter 17 = .ok (.ireturn, 1) by decide +kernel) rfl))))))
    (ok_node
    (ok_node
    (ok_node
    (ok_leaf (ok_aload_n (show decode cX8_acceptsLetter 18 = .ok (.aload_n 0, 1) by decide +kernel) rfl))
    (ok_leaf (ok_iconst (show decode cX8_acceptsLetter 19 = .ok (.iconst 3, 1) by decide +kernel) (by decide +kernel))))
    (ok_node
    (ok_leaf (ok_putI (show decode cX8_acceptsLetter 20 = .ok (.putfield 30, 3) by decide +kernel) (Or.inl (fd_X8 (by decide) wd_299 rfl rfl)) rfl))
    (ok_node
    (ok_leaf (ok_iload_n (show decode cX8_acceptsLetter 23 = .ok (.iload_n 1, 1) by decide +kernel) rfl))
    (ok_leaf (ok_callS (Mc := M_X5_parts) (show decode cX8_acceptsLetter 24 = .ok (.invokestatic 56, 3) by decide +kernel) rfl (by decide) (by decide +kernel) wd_322 wd_27 wd_28 wd_29 ⟨by decide +kernel, by decide +kernel, by decide +kernel⟩ (by decide))))))
    (ok_node
    (ok_node
    (ok_leaf (ok_istore_n (show decode cX8_acceptsLetter 27 = .ok (.istore_n 3, 1) by decide +kernel) rfl))
    (ok_leaf (ok_iload_n (show decode cX8_acceptsLetter 28 = .ok (.iload_n 3, 1) by decide +kernel) rfl)))
    (ok_node
    (ok_leaf (ok_if_le (show decode cX8_acceptsLetter 29 = .ok (.ifCond .le 40, 3) by decide +kernel) (by decide +kernel)))
    (ok_node
    (ok_leaf (ok_aload_n (show decode cX8_acceptsLetter 32 = .ok (.aload_n 0, 1) by decide +kernel) rfl))
    (ok_leaf (ok_getfield (show decode cX8_acceptsLetter 33 = .ok (.getfield 27, 3) by decide +kernel) (Or.inl (fd_X8 (by decide) wd_298 rfl rfl)))))))))
    (ok_node
    (ok_node
    (ok_node
    (ok_node
    (ok_leaf (ok_aload_n (show decode cX8_acceptsLetter 36 = .ok (.aload_n 0, 1) by decide +kernel) rfl))
    (ok_leaf (ok_getfield (show decode cX8_acceptsLetter 37 = .ok (.getfield 17, 3) by decide +kernel) (Or.inr (fdF_X8 (by decide) wd_292 rfl rfl)))))
    (ok_node
    (ok_leaf (ok_arraylength (show decode cX8_acceptsLetter 40 = .ok (.arraylength, 1) by decide +kernel)))
    (ok_node
    (ok_leaf (ok_icmp_ge (show decode cX8_acceptsLetter 41 = .ok (.if_icmp .ge 28, 3) by decide +kernel) (by decide +kernel)))
    (ok_leaf (ok_aload_n (show decode cX8_acceptsLetter 44 = .ok (.aload_n 0, 1) by decide +kernel) rfl)))))
    (ok_node
    (ok_node
    (ok_leaf (ok_getfield (show decode cX8_acceptsLetter 45 = .ok (.getfield 17, 3) by decide +kernel) (Or.inr (fdF_X8 (by decide) wd_292 rfl rfl))))
    (ok_leaf (ok_aload_n (show decode cX8_acceptsLetter 48 = .ok (.aload_n 0, 1) by decide +kernel) rfl)))
    (ok_node
    (ok_leaf (ok_getfield (show decode cX8_acceptsLetter 49 = .ok (.getfield 27, 3) by decide +kernel) (Or.inl (fd_X8 (by decide) wd_298 rfl rfl))))
    (ok_node
    (ok_leaf (ok_iload_n (show decode cX8_acceptsLetter 52 = .ok (.iload_n 3, 1) by decide +kernel) rfl))
    (ok_leaf (ok_iastore (show decode cX8_acceptsLetter 53 = .ok (.iastore, 1) by decide +kernel)))))))
    (ok_node
    (ok_node
    (ok_node
    (ok_leaf (ok_aload_n (show decode cX8_acceptsLetter 54 = .ok (.aload_n 0, 1) by decide +kernel) rfl))
    (ok_leaf (ok_dup (show decode cX8_acceptsLetter 55 = .ok (.dup, 1) by decide +kernel))))
    (ok_node
    (ok_leaf (ok_getfield (show decode cX8_acceptsLetter 56 = .ok (.getfield 27, 3) by decide +kernel) (Or.inl (fd_X8 (by decide) wd_298 rfl rfl))))
    (ok_node
    (ok_leaf (ok_iconst (show decode cX8_acceptsLetter 59 = .ok (.iconst 1, 1) by decide +kernel) (by decide +kernel)))
    (ok_leaf (ok_iadd (show decode cX8_acceptsLetter 60 = .ok (.iadd, 1) by decide +kernel))))))
    (ok_node
    (ok_node
    (ok_leaf (ok_putI (show decode cX8_acceptsLetter 61 = .ok (.putfield 27, 3) by decide +kernel) (Or.inl (fd_X8 (by decide) wd_298 rfl rfl)) rfl))
    (ok_node
    (ok_leaf (ok_aload_n (show decode cX8_acceptsLetter 64 = .ok (.aload_n 0, 1) by decide +kernel) rfl))
    (ok_leaf (ok_iconst (show decode cX8_acceptsLetter 65 = .ok (.iconst 2, 1) by decide +kernel) (by decide +kernel)))))
    (ok_node
    (ok_leaf (ok_putI (show decode cX8_acceptsLetter 66 = .ok (.putfield 30, 3) by decide +kernel) (Or.inl (fd_X8 (by decide) wd_299 rfl rfl)) rfl))
    (ok_node
    (ok_leaf (ok_iconst (show decode cX8_acceptsLetter 69 = .ok (.iconst 1, 1) by decide +kernel) (by decide +kernel)))
    (ok_leaf (ok_zreturn (show decode cX8_acceptsLetter 70 = .ok (.ireturn, 1) by decide +kernel) rfl)))))))
set_option maxRecDepth 20000 in
set_option maxHeartbeats 4000000 in
theorem ok_X8_acceptsInside {sc : List Int32} : ∀ pc, pOk mtOf 189 M_X8_acceptsInside false sc pc (cd_X8_acceptsInside pc) := by
  unfold cd_X8_acceptsInside
  exact ok_node
    (ok_node
    (ok_node
    (ok_node
    (ok_node
    (ok_leaf (ok_aload_n (show decode cX8_acceptsInside 0 = .ok (.aload_n 0, 1) by decide +kernel) rfl))
    (ok_node
    (ok_leaf (ok_getfield (show decode cX8_acceptsInside 1 = .ok (.getfield 27, 3) by decide +kernel) (Or.inl (fd_X8 (by decide) wd_298 rfl rfl))))
    (ok_leaf (ok_iconst (show decode cX8_acceptsInside 4 = .ok (.iconst 1, 1) by decide +kernel) (by decide +kernel)))))
    (ok_node
    (ok_leaf (ok_isub (show decode cX8_acceptsInside 5 = .ok (.isub, 1) by decide +kernel)))
    (ok_node
    (ok_leaf (ok_istore_n (show decode cX8_acceptsInside 6 = .ok (.istore_n 2, 1) by decide +kernel) rfl))
    (ok_leaf (ok_iload_n (show decode cX8_acceptsInside 7 = .ok (.iload_n 2, 1) by decide +kernel) rfl)))))
    (ok_node
    (ok_node
    (ok_leaf (ok_if_lt (show decode cX8_acceptsInside 8 = .ok (.ifCond .lt 12, 3) by decide +kernel) (by decide +kernel)))
    (ok_node
    (ok_leaf (ok_iload_n (show decode cX8_acceptsInside 11 = .ok (.iload_n 2, 1) by decide +kernel) rfl))
    (ok_leaf (ok_aload_n (show decode cX8_acceptsInside 12 = .ok (.aload_n 0, 1) by decide +kernel) rfl))))
    (ok_node
    (ok_leaf (ok_getfield (show decode cX8_acceptsInside 13 = .ok (.getfield 17, 3) by decide +kernel) (Or.inr (fdF_X8 (by decide) wd_292 rfl rfl))))
    (ok_node
    (ok_leaf (ok_arraylength (show decode cX8_acceptsInside 16 = .ok (.arraylength, 1) by decide +kernel)))
    (ok_leaf (ok_icmp_lt (show decode cX8_acceptsInside 17 = .ok (.if_icmp .lt 5, 3) by decide +kernel) (by decide +kernel)))))))
    (ok_node
    (ok_node
    (ok_node
    (ok_leaf (ok_iconst (show decode cX8_acceptsInside 20 = .ok (.iconst 0, 1) by decide +kernel) (by decide +kernel)))
    (ok_node
    (ok_leaf (ok_zreturn (show decode cX8_acceptsInside 21 = .ok (.ireturn, 1) by decide +kernel) rfl))
    (ok_leaf (ok_aload_n (show decode cX8_acceptsInside 22 = .ok (.aload_n 0, 1) by decide +kernel) rfl))))
    (ok_node
    (ok_leaf (ok_getfield (show decode cX8_acceptsInside 23 = .ok (.getfield 17, 3) by decide +kernel) (Or.inr (fdF_X8 (by decide) wd_292 rfl rfl))))
    (ok_node
    (ok_leaf (ok_iload_n (show decode cX8_acceptsInside 26 = .ok (.iload_n 2, 1) by decide +kernel) rfl))
    (ok_leaf (ok_iaload (show decode cX8_acceptsInside 27 = .ok (.iaload, 1) by decide +kernel))))))
    (ok_node
    (ok_node
    (ok_leaf (ok_iconst (show decode cX8_acceptsInside 28 = .ok (.iconst 1, 1) by decide +kernel) (by decide +kernel)))
    (ok_node
    (ok_leaf (ok_icmp_le (show decode cX8_acceptsInside 29 = .ok (.if_icmp .le 30, 3) by decide +kernel) (by decide +kernel)))
    (ok_leaf (ok_aload_n (show decode cX8_acceptsInside 32 = .ok (.aload_n 0, 1) by decide +kernel) rfl))))
    (ok_node
    (ok_leaf (ok_getfield (show decode cX8_acceptsInside 33 = .ok (.getfield 17, 3) by decide +kernel) (Or.inr (fdF_X8 (by decide) wd_292 rfl rfl))))
    (ok_node
    (ok_leaf (ok_iload_n (show decode cX8_acceptsInside 36 = .ok (.iload_n 2, 1) by decide +kernel) rfl))
    (ok_leaf (ok_dup2 (show decode cX8_acceptsInside 37 = .ok (.dup2, 1) by decide +kernel))))))))
    (ok_node
    (ok_node
    (ok_node
    (ok_node
    (ok_leaf (ok_iaload (show decode cX8_acceptsInside 38 = .ok (.iaload, 1) by decide +kernel)))
    (ok_node
    (ok_leaf (ok_iconst (show decode cX8_acceptsInside 39 = .ok (.iconst 1, 1) by decide +kernel) (by decide +kernel)))
    (ok_leaf (ok_isub (show decode cX8_acceptsInside 40 = .ok (.isub, 1) by decide +kernel)))))
    (ok_node
    (ok_leaf (ok_iastore (show decode cX8_acceptsInside 41 = .ok (.iastore, 1) by decide +kernel)))
    (ok_node
    (ok_leaf (ok_aload_n (show decode cX8_acceptsInside 42 = .ok (.aload_n 0, 1) by decide +kernel) rfl))
    (ok_leaf (ok_iconst (show decode cX8_acceptsInside 43 = .ok (.iconst 1, 1) by decide +kernel) (by decide +kernel))))))
    (ok_node
    (ok_node
    (ok_leaf (ok_putI (show decode cX8_acceptsInside 44 = .ok (.putfield 30, 3) by decide +kernel) (Or.inl (fd_X8 (by decide) wd_299 rfl rfl)) rfl))
    (ok_node
    (ok_leaf (ok_iload_n (show decode cX8_acceptsInside 47 = .ok (.iload_n 1, 1) by decide +kernel) rfl))
    (ok_leaf (ok_bipush (show decode cX8_acceptsInside 48 = .ok (.bipush 44, 2) by decide +kernel) (by decide +kernel)))))
    (ok_node
    (ok_leaf (ok_icmp_ne (show decode cX8_acceptsInside 50 = .ok (.if_icmp .ne 7, 3) by decide +kernel) (by decide +kernel)))
    (ok_node
    (ok_leaf (ok_iconst (show decode cX8_acceptsInside 53 = .ok (.iconst 1, 1) by decide +kernel) (by decide +kernel)))
    (ok_leaf (ok_goto (show decode cX8_acceptsInside 54 = .ok (.goto 4, 3) by decide +kernel) (by decide +kernel)))))))
    (ok_node
    (ok_node
    (ok_node
    (ok_leaf (ok_iconst (show decode cX8_acceptsInside 57 = .ok (.iconst 0, 1) by decide +kernel) (by decide +kernel)))
    (ok_node
    (ok_leaf (ok_zreturn (show decode cX8_acceptsInside 58 = .ok (.ireturn, 1) by decide +kernel) rfl))
    (ok_leaf (ok_aload_n (show decode cX8_acceptsInside 59 = .ok (.aload_n 0, 1) by decide +kernel) rfl))))
    (ok_node
    (ok_leaf (ok_iload_n (show decode cX8_acceptsInside 60 = .ok (.iload_n 2, 1) by decide +kernel) rfl))
    (ok_node
    (ok_leaf (ok_putI (show decode cX8_acceptsInside 61 = .ok (.putfield 27, 3) by decide +kernel) (Or.inl (fd_X8 (by decide) wd_298 rfl rfl)) rfl))
    (ok_leaf (ok_iload_n (show decode cX8_acceptsInside 64 = .ok (.iload_n 1, 1) by decide +kernel) rfl)))))
    (ok_node
    (ok_node
    (ok_leaf (ok_bipush (show decode cX8_acceptsInside 65 = .ok (.bipush 41, 2) by decide +kernel) (by decide +kernel)))
    (ok_node
    (ok_leaf (ok_icmp_ne (show decode cX8_acceptsInside 67 = .ok (.if_icmp .ne 7, 3) by decide +kernel) (by decide +kernel)))
    (ok_leaf (ok_iconst (show decode cX8_acceptsInside 70 = .ok (.iconst 1, 1) by decide +kernel) (by decide +kernel)))))
    (ok_node
    (ok_leaf (ok_goto (show decode cX8_acceptsInside 71 = .ok (.goto 4, 3) by decide +kernel) (by decide +kernel)))
    (ok_node
    (ok_leaf (ok_iconst (show decode cX8_acceptsInside 74 = .ok (.iconst 0, 1) by decide +kernel) (by decide +kernel)))
    (ok_leaf (ok_zreturn (show decode cX8_acceptsInside 75 = .ok (.ireturn, 1) by decide +kernel) rfl)))))))
set_option maxRecDepth 20000 in
set_option maxHeartbeats 4000000 in
theorem ok_X8_acceptsOutside {sc : List Int32} : ∀ pc, pOk mtOf 189 M_X8_acceptsOutside false sc pc (cd_X8_acceptsOutside pc) := by
  unfold cd_X8_acceptsOutside
  exact ok_node
    (ok_node
    (ok_node
    (ok_node
    (ok_leaf (ok_aload_n (show decode cX8_acceptsOutside 0 = .ok (.aload_n 2, 1) by decide +kernel) rfl))
    (ok_leaf (ok_callV (C := RX2) (T := TX2) (N := 7) (Mc := M_X2_awaitsLeft) (show decode cX8_acceptsOutside 1 = .ok (.invokevirtual 59, 3) by decide +kernel) rfl (by decide) (by decide +kernel) rfl rfl wd_323 wd_324 wd_325 wd_58 wd_326 ⟨by decide +kernel, by decide +kernel, by decide +kernel⟩ (by decide))))
    (ok_node
    (ok_leaf (ok_istore_n (show decode cX8_acceptsOutside 4 = .ok (.istore_n 3, 1) by decide +kernel) rfl))
    (ok_node
    (ok_leaf (ok_aload_n (show decode cX8_acceptsOutside 5 = .ok (.aload_n 2, 1) by decide +kernel) rfl))
    (ok_leaf (ok_callV (C := RX2) (T := TX2) (N := 7) (Mc := M_X2_endSide) (show decode cX8_acceptsOutside 6 = .ok (.invokevirtual 63, 3) by decide +kernel) rfl (by decide) (by decide +kernel) rfl rfl wd_327 wd_328 wd_329 wd_58 wd_330 ⟨by decide +kernel, by decide +kernel, by decide +kernel⟩ (by decide))))))
    (ok_node
    (ok_node
    (ok_leaf (ok_aload_n (show decode cX8_acceptsOutside 9 = .ok (.aload_n 0, 1) by decide +kernel) rfl))
    (ok_node
    (ok_leaf (ok_iload_n (show decode cX8_acceptsOutside 10 = .ok (.iload_n 3, 1) by decide +kernel) rfl))
    (ok_leaf (ok_if_eq (show decode cX8_acceptsOutside 11 = .ok (.ifCond .eq 7, 3) by decide +kernel) (by decide +kernel)))))
    (ok_node
    (ok_leaf (ok_iconst (show decode cX8_acceptsOutside 14 = .ok (.iconst 1, 1) by decide +kernel) (by decide +kernel)))
    (ok_node
    (ok_leaf (ok_goto (show decode cX8_acceptsOutside 15 = .ok (.goto 4, 3) by decide +kernel) (by decide +kernel)))
    (ok_leaf (ok_iconst (show decode cX8_acceptsOutside 18 = .ok (.iconst 0, 1) by decide +kernel) (by decide +kernel)))))))
    (ok_node
    (ok_node
    (ok_node
    (ok_leaf (ok_putI (show decode cX8_acceptsOutside 19 = .ok (.putfield 30, 3) by decide +kernel) (Or.inl (fd_X8 (by decide) wd_299 rfl rfl)) rfl))
    (ok_node
    (ok_leaf (ok_iload_n (show decode cX8_acceptsOutside 22 = .ok (.iload_n 1, 1) by decide +kernel) rfl))
    (ok_leaf (ok_iload_n (show decode cX8_acceptsOutside 23 = .ok (.iload_n 3, 1) by decide +kernel) rfl))))
    (ok_node
    (ok_leaf (ok_if_eq (show decode cX8_acceptsOutside 24 = .ok (.ifCond .eq 8, 3) by decide +kernel) (by decide +kernel)))
    (ok_node
    (ok_leaf (ok_bipush (show decode cX8_acceptsOutside 27 = .ok (.bipush 61, 2) by decide +kernel) (by decide +kernel)))
    (ok_leaf (ok_goto (show decode cX8_acceptsOutside 29 = .ok (.goto 5, 3) by decide +kernel) (by decide +kernel))))))
    (ok_node
    (ok_node
    (ok_leaf (ok_bipush (show decode cX8_acceptsOutside 32 = .ok (.bipush 59, 2) by decide +kernel) (by decide +kernel)))
    (ok_node
    (ok_leaf (ok_icmp_ne (show decode cX8_acceptsOutside 34 = .ok (.if_icmp .ne 7, 3) by decide +kernel) (by decide +kernel)))
    (ok_leaf (ok_iconst (show decode cX8_acceptsOutside 37 = .ok (.iconst 1, 1) by decide +kernel) (by decide +kernel)))))
    (ok_node
    (ok_leaf (ok_goto (show decode cX8_acceptsOutside 38 = .ok (.goto 4, 3) by decide +kernel) (by decide +kernel)))
    (ok_node
    (ok_leaf (ok_iconst (show decode cX8_acceptsOutside 41 = .ok (.iconst 0, 1) by decide +kernel) (by decide +kernel)))
    (ok_leaf (ok_zreturn (show decode cX8_acceptsOutside 42 = .ok (.ireturn, 1) by decide +kernel) rfl))))))
set_option maxRecDepth 20000 in
set_option maxHeartbeats 4000000 in
theorem ok_X9_init {sc : List Int32} : ∀ pc, pOk mtOf 189 M_X9_init false sc pc (cd_X9_init pc) := by
  unfold cd_X9_init
  exact ok_node
    (ok_node
    (ok_node
    (ok_leaf (ok_aload_n (show decode cX9_init 0 = .ok (.aload_n 0, 1) by decide +kernel) rfl))
    (ok_leaf (ok_obj (show decode cX9_init 1 = .ok (.invokespecial 3, 3) by decide +kernel) wd_331 wd_1 wd_2)))
    (ok_node
    (ok_leaf (ok_aload_n (show decode cX9_init 4 = .ok (.aload_n 0, 1) by decide +kernel) rfl))
    (ok_node
    (ok_leaf (ok_sipush (show decode cX9_init 5 = .ok (.sipush 160, 3) by decide +kernel) (by decide +kernel)))
    (ok_leaf (ok_newarray (show decode cX9_init 8 = .ok (.newarray .int, 2) by decide +kernel) wd_3)))))
    (ok_node
    (ok_node
    (ok_leaf (ok_putR (show decode cX9_init 10 = .ok (.putfield 11, 3) by decide +kernel) (Or.inr ⟨fdF_X9 (by decide) wd_332 rfl rfl, rfl, fun r hr => by cases hr; rfl⟩) (Or.inr ⟨_, rfl⟩)))
    (ok_node
    (ok_leaf (ok_aload_n (show decode cX9_init 13 = .ok (.aload_n 0, 1) by decide +kernel) rfl))
    (ok_leaf (ok_bipush (show decode cX9_init 14 = .ok (.bipush 40, 2) by decide +kernel) (by decide +kernel)))))
    (ok_node
    (ok_leaf (ok_newarray (show decode cX9_init 16 = .ok (.newarray .int, 2) by decide +kernel) wd_3))
    (ok_node
    (ok_leaf (ok_putR (show decode cX9_init 18 = .ok (.putfield 17, 3) by decide +kernel) (Or.inr ⟨fdF_X9 (by decide) wd_333 rfl rfl, rfl, fun r hr => by cases hr; rfl⟩) (Or.inr ⟨_, rfl⟩)))
    (ok_leaf (ok_return (show decode cX9_init 21 = .ok (.return_, 1) by decide +kernel) rfl)))))
set_option maxRecDepth 20000 in
set_option maxHeartbeats 4000000 in
theorem ok_X9_begin {sc : List Int32} : ∀ pc, pOk mtOf 189 M_X9_begin false sc pc (cd_X9_begin pc) := by
  unfold cd_X9_begin
  exact ok_node
    (ok_node
    (ok_leaf (ok_aload_n (show decode cX9_begin 0 = .ok (.aload_n 0, 1) by decide +kernel) rfl))
    (ok_node
    (ok_leaf (ok_iconst (show decode cX9_begin 1 = .ok (.iconst 0, 1) by decide +kernel) (by decide +kernel)))
    (ok_leaf (ok_putI (show decode cX9_begin 2 = .ok (.putfield 20, 3) by decide +kernel) (Or.inl (fd_X9 (by decide) wd_334 rfl rfl)) rfl))))
    (ok_node
    (ok_node
    (ok_leaf (ok_aload_n (show decode cX9_begin 5 = .ok (.aload_n 0, 1) by decide +kernel) rfl))
    (ok_leaf (ok_iconst (show decode cX9_begin 6 = .ok (.iconst 0, 1) by decide +kernel) (by decide +kernel))))
    (ok_node
    (ok_leaf (ok_putI (show decode cX9_begin 7 = .ok (.putfield 24, 3) by decide +kernel) (Or.inl (fd_X9 (by decide) wd_335 rfl rfl)) rfl))
    (ok_leaf (ok_return (show decode cX9_begin 10 = .ok (.return_, 1) by decide +kernel) rfl))))
set_option maxRecDepth 20000 in
set_option maxHeartbeats 4000000 in
theorem ok_X9_length {sc : List Int32} : ∀ pc, pOk mtOf 189 M_X9_length false sc pc (cd_X9_length pc) := by
  unfold cd_X9_length
  exact ok_node
    (ok_leaf (ok_aload_n (show decode cX9_length 0 = .ok (.aload_n 0, 1) by decide +kernel) rfl))
    (ok_node
    (ok_leaf (ok_getfield (show decode cX9_length 1 = .ok (.getfield 20, 3) by decide +kernel) (Or.inl (fd_X9 (by decide) wd_334 rfl rfl))))
    (ok_leaf (ok_ireturn (show decode cX9_length 4 = .ok (.ireturn, 1) by decide +kernel) rfl)))
set_option maxRecDepth 20000 in
set_option maxHeartbeats 4000000 in
theorem ok_X9_byteAt {sc : List Int32} : ∀ pc, pOk mtOf 189 M_X9_byteAt false sc pc (cd_X9_byteAt pc) := by
  unfold cd_X9_byteAt
  exact ok_node
    (ok_node
    (ok_node
    (ok_node
    (ok_leaf (ok_iload_n (show decode cX9_byteAt 0 = .ok (.iload_n 1, 1) by decide +kernel) rfl))
    (ok_leaf (ok_if_lt (show decode cX9_byteAt 1 = .ok (.ifCond .lt 27, 3) by decide +kernel) (by decide +kernel))))
    (ok_node
    (ok_leaf (ok_iload_n (show decode cX9_byteAt 4 = .ok (.iload_n 1, 1) by decide +kernel) rfl))
    (ok_leaf (ok_aload_n (show decode cX9_byteAt 5 = .ok (.aload_n 0, 1) by decide +kernel) rfl))))
    (ok_node
    (ok_node
    (ok_leaf (ok_getfield (show decode cX9_byteAt 6 = .ok (.getfield 20, 3) by decide +kernel) (Or.inl (fd_X9 (by decide) wd_334 rfl rfl))))
    (ok_leaf (ok_icmp_ge (show decode cX9_byteAt 9 = .ok (.if_icmp .ge 19, 3) by decide +kernel) (by decide +kernel))))
    (ok_node
    (ok_leaf (ok_iload_n (show decode cX9_byteAt 12 = .ok (.iload_n 1, 1) by decide +kernel) rfl))
    (ok_leaf (ok_sipush (show decode cX9_byteAt 13 = .ok (.sipush 160, 3) by decide +kernel) (by decide +kernel))))))
    (ok_node
    (ok_node
    (ok_node
    (ok_leaf (ok_icmp_ge (show decode cX9_byteAt 16 = .ok (.if_icmp .ge 12, 3) by decide +kernel) (by decide +kernel)))
    (ok_leaf (ok_aload_n (show decode cX9_byteAt 19 = .ok (.aload_n 0, 1) by decide +kernel) rfl)))
    (ok_node
    (ok_leaf (ok_getfield (show decode cX9_byteAt 20 = .ok (.getfield 11, 3) by decide +kernel) (Or.inr (fdF_X9 (by decide) wd_332 rfl rfl))))
    (ok_leaf (ok_iload_n (show decode cX9_byteAt 23 = .ok (.iload_n 1, 1) by decide +kernel) rfl))))
    (ok_node
    (ok_node
    (ok_leaf (ok_iaload (show decode cX9_byteAt 24 = .ok (.iaload, 1) by decide +kernel)))
    (ok_leaf (ok_goto (show decode cX9_byteAt 25 = .ok (.goto 5, 3) by decide +kernel) (by decide +kernel))))
    (ok_node
    (ok_leaf (ok_bipush (show decode cX9_byteAt 28 = .ok (.bipush (-5), 2) by decide +kernel) (by decide +kernel)))
    (ok_leaf (ok_ireturn (show decode cX9_byteAt 30 = .ok (.ireturn, 1) by decide +kernel) rfl)))))
set_option maxRecDepth 20000 in
set_option maxHeartbeats 4000000 in
theorem ok_X9_putTerm {sc : List Int32} : ∀ pc, pOk mtOf 189 M_X9_putTerm false sc pc (cd_X9_putTerm pc) := by
  unfold cd_X9_putTerm
  exact ok_node
    (ok_node
    (ok_node
    (ok_node
    (ok_leaf (ok_iload_n (show decode cX9_putTerm 0 = .ok (.iload_n 2, 1) by decide +kernel) rfl))
    (ok_leaf (ok_aload_n (show decode cX9_putTerm 1 = .ok (.aload_n 1, 1) by decide +kernel) rfl)))
    (ok_node
    (ok_leaf (ok_iload_n (show decode cX9_putTerm 2 = .ok (.iload_n 2, 1) by decide +kernel) rfl))
    (ok_leaf (ok_callV (C := RX2) (T := TX2) (N := 7) (Mc := M_X2_nodesAt) (show decode cX9_putTerm 3 = .ok (.invokevirtual 27, 3) by decide +kernel) rfl (by decide) (by decide +kernel) rfl rfl wd_336 wd_90 wd_91 wd_58 wd_92 ⟨by decide +kernel, by decide +kernel, by decide +kernel⟩ (by decide)))))
    (ok_node
    (ok_node
    (ok_leaf (ok_iadd (show decode cX9_putTerm 6 = .ok (.iadd, 1) by decide +kernel)))
    (ok_leaf (ok_istore_n (show decode cX9_putTerm 7 = .ok (.istore_n 3, 1) by decide +kernel) rfl)))
    (ok_node
    (ok_leaf (ok_iload_n (show decode cX9_putTerm 8 = .ok (.iload_n 2, 1) by decide +kernel) rfl))
    (ok_node
    (ok_leaf (ok_istore (show decode cX9_putTerm 9 = .ok (.istore 4, 2) by decide +kernel)))
    (ok_leaf (ok_iload (show decode cX9_putTerm 11 = .ok (.iload 4, 2) by decide +kernel)))))))
    (ok_node
    (ok_node
    (ok_node
    (ok_leaf (ok_iload_n (show decode cX9_putTerm 13 = .ok (.iload_n 3, 1) by decide +kernel) rfl))
    (ok_leaf (ok_icmp_ge (show decode cX9_putTerm 14 = .ok (.if_icmp .ge 19, 3) by decide +kernel) (by decide +kernel))))
    (ok_node
    (ok_leaf (ok_aload_n (show decode cX9_putTerm 17 = .ok (.aload_n 0, 1) by decide +kernel) rfl))
    (ok_node
    (ok_leaf (ok_aload_n (show decode cX9_putTerm 18 = .ok (.aload_n 1, 1) by decide +kernel) rfl))
    (ok_leaf (ok_iload (show decode cX9_putTerm 19 = .ok (.iload 4, 2) by decide +kernel))))))
    (ok_node
    (ok_node
    (ok_leaf (ok_callV (C := RX2) (T := TX2) (N := 7) (Mc := M_X2_letterAt) (show decode cX9_putTerm 21 = .ok (.invokevirtual 31, 3) by decide +kernel) rfl (by decide) (by decide +kernel) rfl rfl wd_337 wd_68 wd_69 wd_58 wd_70 ⟨by decide +kernel, by decide +kernel, by decide +kernel⟩ (by decide)))
    (ok_leaf (ok_callV (C := RX9) (T := TX9) (N := 4) (Mc := M_X9_putLetter) (show decode cX9_putTerm 24 = .ok (.invokevirtual 34, 3) by decide +kernel) rfl (by decide) (by decide +kernel) rfl rfl wd_338 wd_339 wd_340 wd_341 wd_342 ⟨by decide +kernel, by decide +kernel, by decide +kernel⟩ (by decide))))
    (ok_node
    (ok_leaf (ok_iinc (show decode cX9_putTerm 27 = .ok (.iinc 4 1, 3) by decide +kernel) (by decide +kernel)))
    (ok_node
    (ok_leaf (ok_goto (show decode cX9_putTerm 30 = .ok (.goto (-19), 3) by decide +kernel) (by decide +kernel)))
    (ok_leaf (ok_return (show decode cX9_putTerm 33 = .ok (.return_, 1) by decide +kernel) rfl))))))
set_option maxRecDepth 20000 in
set_option maxHeartbeats 4000000 in
theorem ok_X9_putBody {sc : List Int32} : ∀ pc, pOk mtOf 189 M_X9_putBody false sc pc (cd_X9_putBody pc) := by
  unfold cd_X9_putBody
  exact ok_node
    (ok_node
    (ok_node
    (ok_leaf (ok_iconst (show decode cX9_putBody 0 = .ok (.iconst 0, 1) by decide +kernel) (by decide +kernel)))
    (ok_node
    (ok_leaf (ok_istore_n (show decode cX9_putBody 1 = .ok (.istore_n 2, 1) by decide +kernel) rfl))
    (ok_leaf (ok_iload_n (show decode cX9_putBody 2 = .ok (.iload_n 2, 1) by decide +kernel) rfl))))
    (ok_node
    (ok_node
    (ok_leaf (ok_iload_n (show decode cX9_putBody 3 = .ok (.iload_n 1, 1) by decide +kernel) rfl))
    (ok_leaf (ok_callS (Mc := M_X0_lettersIn) (show decode cX9_putBody 4 = .ok (.invokestatic 38, 3) by decide +kernel) rfl (by decide) (by decide +kernel) wd_343 wd_234 wd_10 wd_235 ⟨by decide +kernel, by decide +kernel, by decide +kernel⟩ (by decide))))
    (ok_node
    (ok_leaf (ok_icmp_ge (show decode cX9_putBody 7 = .ok (.if_icmp .ge 18, 3) by decide +kernel) (by decide +kernel)))
    (ok_leaf (ok_aload_n (show decode cX9_putBody 10 = .ok (.aload_n 0, 1) by decide +kernel) rfl)))))
    (ok_node
    (ok_node
    (ok_leaf (ok_iload_n (show decode cX9_putBody 11 = .ok (.iload_n 1, 1) by decide +kernel) rfl))
    (ok_node
    (ok_leaf (ok_iload_n (show decode cX9_putBody 12 = .ok (.iload_n 2, 1) by decide +kernel) rfl))
    (ok_leaf (ok_callS (Mc := M_X0_letterIn) (show decode cX9_putBody 13 = .ok (.invokestatic 43, 3) by decide +kernel) rfl (by decide) (by decide +kernel) wd_344 wd_19 wd_10 wd_20 ⟨by decide +kernel, by decide +kernel, by decide +kernel⟩ (by decide)))))
    (ok_node
    (ok_node
    (ok_leaf (ok_callV (C := RX9) (T := TX9) (N := 4) (Mc := M_X9_putLetter) (show decode cX9_putBody 16 = .ok (.invokevirtual 34, 3) by decide +kernel) rfl (by decide) (by decide +kernel) rfl rfl wd_338 wd_339 wd_340 wd_341 wd_342 ⟨by decide +kernel, by decide +kernel, by decide +kernel⟩ (by decide)))
    (ok_leaf (ok_iinc (show decode cX9_putBody 19 = .ok (.iinc 2 1, 3) by decide +kernel) (by decide +kernel))))
    (ok_node
    (ok_leaf (ok_goto (show decode cX9_putBody 22 = .ok (.goto (-20), 3) by decide +kernel) (by decide +kernel)))
    (ok_leaf (ok_return (show decode cX9_putBody 25 = .ok (.return_, 1) by decide +kernel) rfl)))))
set_option maxRecDepth 20000 in
set_option maxHeartbeats 4000000 in
theorem ok_X9_put {sc : List Int32} : ∀ pc, pOk mtOf 189 M_X9_put false sc pc (cd_X9_put pc) := by
  unfold cd_X9_put
  exact ok_node
    (ok_node
    (ok_node
    (ok_node
    (ok_leaf (ok_aload_n (show decode cX9_put 0 = .ok (.aload_n 0, 1) by decide +kernel) rfl))
    (ok_leaf (ok_getfield (show decode cX9_put 1 = .ok (.getfield 20, 3) by decide +kernel) (Or.inl (fd_X9 (by decide) wd_334 rfl rfl)))))
    (ok_node
    (ok_leaf (ok_sipush (show decode cX9_put 4 = .ok (.sipush 160, 3) by decide +kernel) (by decide +kernel)))
    (ok_leaf (ok_icmp_ge (show decode cX9_put 7 = .ok (.if_icmp .ge 23, 3) by decide +kernel) (by decide +kernel)))))
    (ok_node
    (ok_node
    (ok_leaf (ok_aload_n (show decode cX9_put 10 = .ok (.aload_n 0, 1) by decide +kernel) rfl))
    (ok_leaf (ok_getfield (show decode cX9_put 11 = .ok (.getfield 11, 3) by decide +kernel) (Or.inr (fdF_X9 (by decide) wd_332 rfl rfl)))))
    (ok_node
    (ok_leaf (ok_aload_n (show decode cX9_put 14 = .ok (.aload_n 0, 1) by decide +kernel) rfl))
    (ok_leaf (ok_getfield (show decode cX9_put 15 = .ok (.getfield 20, 3) by decide +kernel) (Or.inl (fd_X9 (by decide) wd_334 rfl rfl)))))))
    (ok_node
    (ok_node
    (ok_node
    (ok_leaf (ok_iload_n (show decode cX9_put 18 = .ok (.iload_n 1, 1) by decide +kernel) rfl))
    (ok_leaf (ok_iastore (show decode cX9_put 19 = .ok (.iastore, 1) by decide +kernel))))
    (ok_node
    (ok_leaf (ok_aload_n (show decode cX9_put 20 = .ok (.aload_n 0, 1) by decide +kernel) rfl))
    (ok_leaf (ok_dup (show decode cX9_put 21 = .ok (.dup, 1) by decide +kernel)))))
    (ok_node
    (ok_node
    (ok_leaf (ok_getfield (show decode cX9_put 22 = .ok (.getfield 20, 3) by decide +kernel) (Or.inl (fd_X9 (by decide) wd_334 rfl rfl))))
    (ok_leaf (ok_iconst (show decode cX9_put 25 = .ok (.iconst 1, 1) by decide +kernel) (by decide +kernel))))
    (ok_node
    (ok_leaf (ok_iadd (show decode cX9_put 26 = .ok (.iadd, 1) by decide +kernel)))
    (ok_node
    (ok_leaf (ok_putI (show decode cX9_put 27 = .ok (.putfield 20, 3) by decide +kernel) (Or.inl (fd_X9 (by decide) wd_334 rfl rfl)) rfl))
    (ok_leaf (ok_return (show decode cX9_put 30 = .ok (.return_, 1) by decide +kernel) rfl))))))
set_option maxRecDepth 20000 in
set_option maxHeartbeats 4000000 in
theorem ok_X9_putLetter {sc : List Int32} : ∀ pc, pOk mtOf 189 M_X9_putLetter false sc pc (cd_X9_putLetter pc) := by
  unfold cd_X9_putLetter
  exact ok_node
    (ok_node
    (ok_node
    (ok_node
    (ok_node
    (ok_leaf (ok_aload_n (show decode cX9_putLetter 0 = .ok (.aload_n 0, 1) by decide +kernel) rfl))
    (ok_leaf (ok_iload_n (show decode cX9_putLetter 1 = .ok (.iload_n 1, 1) by decide +kernel) rfl)))
    (ok_node
    (ok_leaf (ok_callV (C := RX9) (T := TX9) (N := 4) (Mc := M_X9_put) (show decode cX9_putLetter 2 = .ok (.invokevirtual 47, 3) by decide +kernel) rfl (by decide) (by decide +kernel) rfl rfl wd_345 wd_346 wd_347 wd_341 wd_348 ⟨by decide +kernel, by decide +kernel, by decide +kernel⟩ (by decide)))
    (ok_leaf (ok_iload_n (show decode cX9_putLetter 5 = .ok (.iload_n 1, 1) by decide +kernel) rfl))))
    (ok_node
    (ok_node
    (ok_leaf (ok_callS (Mc := M_X5_parts) (show decode cX9_putLetter 6 = .ok (.invokestatic 50, 3) by decide +kernel) rfl (by decide) (by decide +kernel) wd_349 wd_27 wd_28 wd_29 ⟨by decide +kernel, by decide +kernel, by decide +kernel⟩ (by decide)))
    (ok_leaf (ok_istore_n (show decode cX9_putLetter 9 = .ok (.istore_n 2, 1) by decide +kernel) rfl)))
    (ok_node
    (ok_leaf (ok_iload_n (show decode cX9_putLetter 10 = .ok (.iload_n 2, 1) by decide +kernel) rfl))
    (ok_leaf (ok_if_le (show decode cX9_putLetter 11 = .ok (.ifCond .le 44, 3) by decide +kernel) (by decide +kernel))))))
    (ok_node
    (ok_node
    (ok_node
    (ok_leaf (ok_aload_n (show decode cX9_putLetter 14 = .ok (.aload_n 0, 1) by decide +kernel) rfl))
    (ok_leaf (ok_getfield (show decode cX9_putLetter 15 = .ok (.getfield 24, 3) by decide +kernel) (Or.inl (fd_X9 (by decide) wd_335 rfl rfl)))))
    (ok_node
    (ok_leaf (ok_aload_n (show decode cX9_putLetter 18 = .ok (.aload_n 0, 1) by decide +kernel) rfl))
    (ok_leaf (ok_getfield (show decode cX9_putLetter 19 = .ok (.getfield 17, 3) by decide +kernel) (Or.inr (fdF_X9 (by decide) wd_333 rfl rfl))))))
    (ok_node
    (ok_node
    (ok_leaf (ok_arraylength (show decode cX9_putLetter 22 = .ok (.arraylength, 1) by decide +kernel)))
    (ok_leaf (ok_icmp_ge (show decode cX9_putLetter 23 = .ok (.if_icmp .ge 32, 3) by decide +kernel) (by decide +kernel))))
    (ok_node
    (ok_leaf (ok_aload_n (show decode cX9_putLetter 26 = .ok (.aload_n 0, 1) by decide +kernel) rfl))
    (ok_leaf (ok_getfield (show decode cX9_putLetter 27 = .ok (.getfield 17, 3) by decide +kernel) (Or.inr (fdF_X9 (by decide) wd_333 rfl rfl))))))))
    (ok_node
    (ok_node
    (ok_node
    (ok_node
    (ok_leaf (ok_aload_n (show decode cX9_putLetter 30 = .ok (.aload_n 0, 1) by decide +kernel) rfl))
    (ok_leaf (ok_getfield (show decode cX9_putLetter 31 = .ok (.getfield 24, 3) by decide +kernel) (Or.inl (fd_X9 (by decide) wd_335 rfl rfl)))))
    (ok_node
    (ok_leaf (ok_iload_n (show decode cX9_putLetter 34 = .ok (.iload_n 2, 1) by decide +kernel) rfl))
    (ok_leaf (ok_iastore (show decode cX9_putLetter 35 = .ok (.iastore, 1) by decide +kernel)))))
    (ok_node
    (ok_node
    (ok_leaf (ok_aload_n (show decode cX9_putLetter 36 = .ok (.aload_n 0, 1) by decide +kernel) rfl))
    (ok_leaf (ok_dup (show decode cX9_putLetter 37 = .ok (.dup, 1) by decide +kernel))))
    (ok_node
    (ok_leaf (ok_getfield (show decode cX9_putLetter 38 = .ok (.getfield 24, 3) by decide +kernel) (Or.inl (fd_X9 (by decide) wd_335 rfl rfl))))
    (ok_leaf (ok_iconst (show decode cX9_putLetter 41 = .ok (.iconst 1, 1) by decide +kernel) (by decide +kernel))))))
    (ok_node
    (ok_node
    (ok_node
    (ok_leaf (ok_iadd (show decode cX9_putLetter 42 = .ok (.iadd, 1) by decide +kernel)))
    (ok_leaf (ok_putI (show decode cX9_putLetter 43 = .ok (.putfield 24, 3) by decide +kernel) (Or.inl (fd_X9 (by decide) wd_335 rfl rfl)) rfl)))
    (ok_node
    (ok_leaf (ok_aload_n (show decode cX9_putLetter 46 = .ok (.aload_n 0, 1) by decide +kernel) rfl))
    (ok_leaf (ok_bipush (show decode cX9_putLetter 47 = .ok (.bipush 40, 2) by decide +kernel) (by decide +kernel)))))
    (ok_node
    (ok_node
    (ok_leaf (ok_callV (C := RX9) (T := TX9) (N := 4) (Mc := M_X9_put) (show decode cX9_putLetter 49 = .ok (.invokevirtual 47, 3) by decide +kernel) rfl (by decide) (by decide +kernel) rfl rfl wd_345 wd_346 wd_347 wd_341 wd_348 ⟨by decide +kernel, by decide +kernel, by decide +kernel⟩ (by decide)))
    (ok_leaf (ok_goto (show decode cX9_putLetter 52 = .ok (.goto 7, 3) by decide +kernel) (by decide +kernel))))
    (ok_node
    (ok_leaf (ok_aload_n (show decode cX9_putLetter 55 = .ok (.aload_n 0, 1) by decide +kernel) rfl))
    (ok_node
    (ok_leaf (ok_callV (C := RX9) (T := TX9) (N := 4) (Mc := M_X9_endTerm) (show decode cX9_putLetter 56 = .ok (.invokevirtual 55, 3) by decide +kernel) rfl (by decide) (by decide +kernel) rfl rfl wd_350 wd_351 wd_352 wd_341 wd_353 ⟨by decide +kernel, by decide +kernel, by decide +kernel⟩ (by decide)))
    (ok_leaf (ok_return (show decode cX9_putLetter 59 = .ok (.return_, 1) by decide +kernel) rfl)))))))
set_option maxRecDepth 20000 in
set_option maxHeartbeats 4000000 in
theorem ok_X9_endTerm {sc : List Int32} : ∀ pc, pOk mtOf 189 M_X9_endTerm false sc pc (cd_X9_endTerm pc) := by
  unfold cd_X9_endTerm
  exact ok_node
    (ok_node
    (ok_node
    (ok_node
    (ok_node
    (ok_leaf (ok_aload_n (show decode cX9_endTerm 0 = .ok (.aload_n 0, 1) by decide +kernel) rfl))
    (ok_leaf (ok_getfield (show decode cX9_endTerm 1 = .ok (.getfield 24, 3) by decide +kernel) (Or.inl (fd_X9 (by decide) wd_335 rfl rfl)))))
    (ok_node
    (ok_leaf (ok_iconst (show decode cX9_endTerm 4 = .ok (.iconst 1, 1) by decide +kernel) (by decide +kernel)))
    (ok_leaf (ok_isub (show decode cX9_endTerm 5 = .ok (.isub, 1) by decide +kernel)))))
    (ok_node
    (ok_node
    (ok_leaf (ok_istore_n (show decode cX9_endTerm 6 = .ok (.istore_n 1, 1) by decide +kernel) rfl))
    (ok_leaf (ok_iload_n (show decode cX9_endTerm 7 = .ok (.iload_n 1, 1) by decide +kernel) rfl)))
    (ok_node
    (ok_leaf (ok_if_lt (show decode cX9_endTerm 8 = .ok (.ifCond .lt 55, 3) by decide +kernel) (by decide +kernel)))
    (ok_node
    (ok_leaf (ok_iload_n (show decode cX9_endTerm 11 = .ok (.iload_n 1, 1) by decide +kernel) rfl))
    (ok_leaf (ok_aload_n (show decode cX9_endTerm 12 = .ok (.aload_n 0, 1) by decide +kernel) rfl))))))
    (ok_node
    (ok_node
    (ok_node
    (ok_leaf (ok_getfield (show decode cX9_endTerm 13 = .ok (.getfield 17, 3) by decide +kernel) (Or.inr (fdF_X9 (by decide) wd_333 rfl rfl))))
    (ok_leaf (ok_arraylength (show decode cX9_endTerm 16 = .ok (.arraylength, 1) by decide +kernel))))
    (ok_node
    (ok_leaf (ok_icmp_ge (show decode cX9_endTerm 17 = .ok (.if_icmp .ge 46, 3) by decide +kernel) (by decide +kernel)))
    (ok_node
    (ok_leaf (ok_aload_n (show decode cX9_endTerm 20 = .ok (.aload_n 0, 1) by decide +kernel) rfl))
    (ok_leaf (ok_getfield (show decode cX9_endTerm 21 = .ok (.getfield 17, 3) by decide +kernel) (Or.inr (fdF_X9 (by decide) wd_333 rfl rfl)))))))
    (ok_node
    (ok_node
    (ok_leaf (ok_iload_n (show decode cX9_endTerm 24 = .ok (.iload_n 1, 1) by decide +kernel) rfl))
    (ok_leaf (ok_dup2 (show decode cX9_endTerm 25 = .ok (.dup2, 1) by decide +kernel))))
    (ok_node
    (ok_leaf (ok_iaload (show decode cX9_endTerm 26 = .ok (.iaload, 1) by decide +kernel)))
    (ok_node
    (ok_leaf (ok_iconst (show decode cX9_endTerm 27 = .ok (.iconst 1, 1) by decide +kernel) (by decide +kernel)))
    (ok_leaf (ok_isub (show decode cX9_endTerm 28 = .ok (.isub, 1) by decide +kernel))))))))
    (ok_node
    (ok_node
    (ok_node
    (ok_node
    (ok_leaf (ok_iastore (show decode cX9_endTerm 29 = .ok (.iastore, 1) by decide +kernel)))
    (ok_leaf (ok_aload_n (show decode cX9_endTerm 30 = .ok (.aload_n 0, 1) by decide +kernel) rfl)))
    (ok_node
    (ok_leaf (ok_getfield (show decode cX9_endTerm 31 = .ok (.getfield 17, 3) by decide +kernel) (Or.inr (fdF_X9 (by decide) wd_333 rfl rfl))))
    (ok_leaf (ok_iload_n (show decode cX9_endTerm 34 = .ok (.iload_n 1, 1) by decide +kernel) rfl))))
    (ok_node
    (ok_node
    (ok_leaf (ok_iaload (show decode cX9_endTerm 35 = .ok (.iaload, 1) by decide +kernel)))
    (ok_leaf (ok_if_le (show decode cX9_endTerm 36 = .ok (.ifCond .le 10, 3) by decide +kernel) (by decide +kernel))))
    (ok_node
    (ok_leaf (ok_aload_n (show decode cX9_endTerm 39 = .ok (.aload_n 0, 1) by decide +kernel) rfl))
    (ok_node
    (ok_leaf (ok_bipush (show decode cX9_endTerm 40 = .ok (.bipush 44, 2) by decide +kernel) (by decide +kernel)))
    (ok_leaf (ok_callV (C := RX9) (T := TX9) (N := 4) (Mc := M_X9_put) (show decode cX9_endTerm 42 = .ok (.invokevirtual 47, 3) by decide +kernel) rfl (by decide) (by decide +kernel) rfl rfl wd_345 wd_346 wd_347 wd_341 wd_348 ⟨by decide +kernel, by decide +kernel, by decide +kernel⟩ (by decide)))))))
    (ok_node
    (ok_node
    (ok_node
    (ok_leaf (ok_return (show decode cX9_endTerm 45 = .ok (.return_, 1) by decide +kernel) rfl))
    (ok_leaf (ok_aload_n (show decode cX9_endTerm 46 = .ok (.aload_n 0, 1) by decide +kernel) rfl)))
    (ok_node
    (ok_leaf (ok_bipush (show decode cX9_endTerm 47 = .ok (.bipush 41, 2) by decide +kernel) (by decide +kernel)))
    (ok_node
    (ok_leaf (ok_callV (C := RX9) (T := TX9) (N := 4) (Mc := M_X9_put) (show decode cX9_endTerm 49 = .ok (.invokevirtual 47, 3) by decide +kernel) rfl (by decide) (by decide +kernel) rfl rfl wd_345 wd_346 wd_347 wd_341 wd_348 ⟨by decide +kernel, by decide +kernel, by decide +kernel⟩ (by decide)))
    (ok_leaf (ok_aload_n (show decode cX9_endTerm 52 = .ok (.aload_n 0, 1) by decide +kernel) rfl)))))
    (ok_node
    (ok_node
    (ok_leaf (ok_iload_n (show decode cX9_endTerm 53 = .ok (.iload_n 1, 1) by decide +kernel) rfl))
    (ok_leaf (ok_putI (show decode cX9_endTerm 54 = .ok (.putfield 24, 3) by decide +kernel) (Or.inl (fd_X9 (by decide) wd_335 rfl rfl)) rfl)))
    (ok_node
    (ok_leaf (ok_iinc (show decode cX9_endTerm 57 = .ok (.iinc 1 (-1), 3) by decide +kernel) (by decide +kernel)))
    (ok_node
    (ok_leaf (ok_goto (show decode cX9_endTerm 60 = .ok (.goto (-53), 3) by decide +kernel) (by decide +kernel)))
    (ok_leaf (ok_return (show decode cX9_endTerm 63 = .ok (.return_, 1) by decide +kernel) rfl)))))))
set_option maxRecDepth 20000 in
set_option maxHeartbeats 4000000 in
theorem ok_X10_init {sc : List Int32} : ∀ pc, pOk mtOf 189 M_X10_init false sc pc (cd_X10_init pc) := by
  unfold cd_X10_init
  exact ok_node
    (ok_node
    (ok_node
    (ok_node
    (ok_node
    (ok_leaf (ok_aload_n (show decode cX10_init 0 = .ok (.aload_n 0, 1) by decide +kernel) rfl))
    (ok_node
    (ok_leaf (ok_obj (show decode cX10_init 1 = .ok (.invokespecial 1, 3) by decide +kernel) wd_354 wd_1 wd_2))
    (ok_leaf (ok_aload_n (show decode cX10_init 4 = .ok (.aload_n 0, 1) by decide +kernel) rfl))))
    (ok_node
    (ok_node
    (ok_leaf (ok_new (C := RX8) (T := TX8) (N := 5) (show decode cX10_init 5 = .ok (.new 7, 3) by decide +kernel) rfl in_X8 tyX8_ok wd_355 wd_356 wd_303 (by decide +kernel) rfl (fun _ _ => rfl)))
    (ok_leaf (ok_dup (show decode cX10_init 8 = .ok (.dup, 1) by decide +kernel))))
    (ok_node
    (ok_leaf (ok_callIN (Mc := M_X8_init) (show decode cX10_init 9 = .ok (.invokespecial 9, 3) by decide +kernel) rfl (by decide) (by decide +kernel) rfl rfl (by decide +kernel) wd_357 wd_303 wd_358 ⟨by decide +kernel, by decide +kernel, by decide +kernel⟩ (by decide)))
    (ok_leaf (ok_putR (show decode cX10_init 12 = .ok (.putfield 10, 3) by decide +kernel) (Or.inr ⟨fdF_X10 (by decide) wd_359 rfl rfl, rfl, fun r hr => by cases hr; rfl⟩) (Or.inl ⟨_, rfl⟩))))))
    (ok_node
    (ok_node
    (ok_node
    (ok_leaf (ok_aload_n (show decode cX10_init 15 = .ok (.aload_n 0, 1) by decide +kernel) rfl))
    (ok_leaf (ok_new (C := RX2) (T := TX2) (N := 7) (show decode cX10_init 16 = .ok (.new 16, 3) by decide +kernel) rfl in_X2 tyX2_ok wd_360 wd_157 wd_58 (by decide +kernel) rfl (fun _ _ => rfl))))
    (ok_node
    (ok_leaf (ok_dup (show decode cX10_init 19 = .ok (.dup, 1) by decide +kernel)))
    (ok_leaf (ok_callIN (Mc := M_X2_init) (show decode cX10_init 20 = .ok (.invokespecial 18, 3) by decide +kernel) rfl (by decide) (by decide +kernel) rfl rfl (by decide +kernel) wd_158 wd_58 wd_159 ⟨by decide +kernel, by decide +kernel, by decide +kernel⟩ (by decide)))))
    (ok_node
    (ok_node
    (ok_leaf (ok_putR (show decode cX10_init 23 = .ok (.putfield 19, 3) by decide +kernel) (Or.inr ⟨fdF_X10 (by decide) wd_361 rfl rfl, rfl, fun r hr => by cases hr; rfl⟩) (Or.inl ⟨_, rfl⟩)))
    (ok_leaf (ok_aload_n (show decode cX10_init 26 = .ok (.aload_n 0, 1) by decide +kernel) rfl)))
    (ok_node
    (ok_leaf (ok_new (C := RX2) (T := TX2) (N := 7) (show decode cX10_init 27 = .ok (.new 16, 3) by decide +kernel) rfl in_X2 tyX2_ok wd_360 wd_157 wd_58 (by decide +kernel) rfl (fun _ _ => rfl)))
    (ok_leaf (ok_dup (show decode cX10_init 30 = .ok (.dup, 1) by decide +kernel)))))))
    (ok_node
    (ok_node
    (ok_node
    (ok_leaf (ok_callIN (Mc := M_X2_init) (show decode cX10_init 31 = .ok (.invokespecial 18, 3) by decide +kernel) rfl (by decide) (by decide +kernel) rfl rfl (by decide +kernel) wd_158 wd_58 wd_159 ⟨by decide +kernel, by decide +kernel, by decide +kernel⟩ (by decide)))
    (ok_node
    (ok_leaf (ok_putR (show decode cX10_init 34 = .ok (.putfield 23, 3) by decide +kernel) (Or.inr ⟨fdF_X10 (by decide) wd_362 rfl rfl, rfl, fun r hr => by cases hr; rfl⟩) (Or.inl ⟨_, rfl⟩)))
    (ok_leaf (ok_aload_n (show decode cX10_init 37 = .ok (.aload_n 0, 1) by decide +kernel) rfl))))
    (ok_node
    (ok_node
    (ok_leaf (ok_new (C := RX4) (T := TX4) (N := 2) (show decode cX10_init 38 = .ok (.new 26, 3) by decide +kernel) rfl in_X4 tyX4_ok wd_363 wd_364 wd_365 (by decide +kernel) rfl (fun _ _ => rfl)))
    (ok_leaf (ok_dup (show decode cX10_init 41 = .ok (.dup, 1) by decide +kernel))))
    (ok_node
    (ok_leaf (ok_callI (Mc := M_X4_init) (show decode cX10_init 42 = .ok (.invokespecial 28, 3) by decide +kernel) rfl (by decide) (by decide +kernel) rfl rfl wd_366 wd_367 wd_365 wd_368 ⟨by decide +kernel, by decide +kernel, by decide +kernel⟩ (by decide)))
    (ok_leaf (ok_putR (show decode cX10_init 45 = .ok (.putfield 29, 3) by decide +kernel) (Or.inr ⟨fdF_X10 (by decide) wd_369 rfl rfl, rfl, fun r hr => by cases hr; rfl⟩) (Or.inl ⟨_, rfl⟩))))))
    (ok_node
    (ok_node
    (ok_node
    (ok_leaf (ok_aload_n (show decode cX10_init 48 = .ok (.aload_n 0, 1) by decide +kernel) rfl))
    (ok_leaf (ok_new (C := RX6) (T := TX6) (N := 4) (show decode cX10_init 49 = .ok (.new 33, 3) by decide +kernel) rfl in_X6 tyX6_ok wd_370 wd_371 wd_174 (by decide +kernel) rfl (fun _ _ => rfl))))
    (ok_node
    (ok_leaf (ok_dup (show decode cX10_init 52 = .ok (.dup, 1) by decide +kernel)))
    (ok_leaf (ok_aload_n (show decode cX10_init 53 = .ok (.aload_n 0, 1) by decide +kernel) rfl))))
    (ok_node
    (ok_node
    (ok_leaf (ok_getfield (show decode cX10_init 54 = .ok (.getfield 19, 3) by decide +kernel) (Or.inr (fdF_X10 (by decide) wd_361 rfl rfl))))
    (ok_leaf (ok_callI (Mc := M_X6_init) (show decode cX10_init 57 = .ok (.invokespecial 35, 3) by decide +kernel) rfl (by decide) (by decide +kernel) rfl rfl wd_372 wd_373 wd_174 wd_374 ⟨by decide +kernel, by decide +kernel, by decide +kernel⟩ (by decide))))
    (ok_node
    (ok_leaf (ok_putR (show decode cX10_init 60 = .ok (.putfield 38, 3) by decide +kernel) (Or.inr ⟨fdF_X10 (by decide) wd_375 rfl rfl, rfl, fun r hr => by cases hr; rfl⟩) (Or.inl ⟨_, rfl⟩)))
    (ok_leaf (ok_aload_n (show decode cX10_init 63 = .ok (.aload_n 0, 1) by decide +kernel) rfl)))))))
    (ok_node
    (ok_node
    (ok_node
    (ok_node
    (ok_leaf (ok_new (C := RX0) (T := TX0) (N := 3) (show decode cX10_init 64 = .ok (.new 42, 3) by decide +kernel) rfl in_X0 tyX0_ok wd_376 wd_377 wd_10 (by decide +kernel) rfl (fun _ _ => rfl)))
    (ok_node
    (ok_leaf (ok_dup (show decode cX10_init 67 = .ok (.dup, 1) by decide +kernel)))
    (ok_leaf (ok_callI (Mc := M_X0_init) (show decode cX10_init 68 = .ok (.invokespecial 44, 3) by decide +kernel) rfl (by decide) (by decide +kernel) rfl rfl wd_378 wd_379 wd_10 wd_380 ⟨by decide +kernel, by decide +kernel, by decide +kernel⟩ (by decide)))))
    (ok_node
    (ok_node
    (ok_leaf (ok_putR (show decode cX10_init 71 = .ok (.putfield 45, 3) by decide +kernel) (Or.inr ⟨fdF_X10 (by decide) wd_381 rfl rfl, rfl, fun r hr => by cases hr; rfl⟩) (Or.inl ⟨_, rfl⟩)))
    (ok_leaf (ok_aload_n (show decode cX10_init 74 = .ok (.aload_n 0, 1) by decide +kernel) rfl)))
    (ok_node
    (ok_leaf (ok_new (C := RX3) (T := TX3) (N := 8) (show decode cX10_init 75 = .ok (.new 49, 3) by decide +kernel) rfl in_X3 tyX3_ok wd_382 wd_383 wd_127 (by decide +kernel) rfl (fun _ _ => rfl)))
    (ok_leaf (ok_dup (show decode cX10_init 78 = .ok (.dup, 1) by decide +kernel))))))
    (ok_node
    (ok_node
    (ok_node
    (ok_leaf (ok_aload_n (show decode cX10_init 79 = .ok (.aload_n 0, 1) by decide +kernel) rfl))
    (ok_leaf (ok_getfield (show decode cX10_init 80 = .ok (.getfield 19, 3) by decide +kernel) (Or.inr (fdF_X10 (by decide) wd_361 rfl rfl)))))
    (ok_node
    (ok_leaf (ok_callI (Mc := M_X3_init) (show decode cX10_init 83 = .ok (.invokespecial 51, 3) by decide +kernel) rfl (by decide) (by decide +kernel) rfl rfl wd_384 wd_385 wd_127 wd_386 ⟨by decide +kernel, by decide +kernel, by decide +kernel⟩ (by decide)))
    (ok_leaf (ok_putR (show decode cX10_init 86 = .ok (.putfield 52, 3) by decide +kernel) (Or.inr ⟨fdF_X10 (by decide) wd_387 rfl rfl, rfl, fun r hr => by cases hr; rfl⟩) (Or.inl ⟨_, rfl⟩)))))
    (ok_node
    (ok_node
    (ok_leaf (ok_aload_n (show decode cX10_init 89 = .ok (.aload_n 0, 1) by decide +kernel) rfl))
    (ok_leaf (ok_new (C := RX7) (T := TX7) (N := 10) (show decode cX10_init 90 = .ok (.new 56, 3) by decide +kernel) rfl in_X7 tyX7_ok wd_388 wd_389 wd_218 (by decide +kernel) rfl (fun _ _ => rfl))))
    (ok_node
    (ok_leaf (ok_dup (show decode cX10_init 93 = .ok (.dup, 1) by decide +kernel)))
    (ok_leaf (ok_aload_n (show decode cX10_init 94 = .ok (.aload_n 0, 1) by decide +kernel) rfl))))))
    (ok_node
    (ok_node
    (ok_node
    (ok_leaf (ok_getfield (show decode cX10_init 95 = .ok (.getfield 19, 3) by decide +kernel) (Or.inr (fdF_X10 (by decide) wd_361 rfl rfl))))
    (ok_node
    (ok_leaf (ok_aload_n (show decode cX10_init 98 = .ok (.aload_n 0, 1) by decide +kernel) rfl))
    (ok_leaf (ok_getfield (show decode cX10_init 99 = .ok (.getfield 38, 3) by decide +kernel) (Or.inr (fdF_X10 (by decide) wd_375 rfl rfl))))))
    (ok_node
    (ok_node
    (ok_leaf (ok_aload_n (show decode cX10_init 102 = .ok (.aload_n 0, 1) by decide +kernel) rfl))
    (ok_leaf (ok_getfield (show decode cX10_init 103 = .ok (.getfield 45, 3) by decide +kernel) (Or.inr (fdF_X10 (by decide) wd_381 rfl rfl)))))
    (ok_node
    (ok_leaf (ok_aload_n (show decode cX10_init 106 = .ok (.aload_n 0, 1) by decide +kernel) rfl))
    (ok_leaf (ok_getfield (show decode cX10_init 107 = .ok (.getfield 52, 3) by decide +kernel) (Or.inr (fdF_X10 (by decide) wd_387 rfl rfl)))))))
    (ok_node
    (ok_node
    (ok_node
    (ok_leaf (ok_callI (Mc := M_X7_init) (show decode cX10_init 110 = .ok (.invokespecial 58, 3) by decide +kernel) rfl (by decide) (by decide +kernel) rfl rfl wd_390 wd_391 wd_218 wd_392 ⟨by decide +kernel, by decide +kernel, by decide +kernel⟩ (by decide)))
    (ok_leaf (ok_putR (show decode cX10_init 113 = .ok (.putfield 61, 3) by decide +kernel) (Or.inr ⟨fdF_X10 (by decide) wd_393 rfl rfl, rfl, fun r hr => by cases hr; rfl⟩) (Or.inl ⟨_, rfl⟩))))
    (ok_node
    (ok_leaf (ok_aload_n (show decode cX10_init 116 = .ok (.aload_n 0, 1) by decide +kernel) rfl))
    (ok_leaf (ok_new (C := RX9) (T := TX9) (N := 4) (show decode cX10_init 117 = .ok (.new 65, 3) by decide +kernel) rfl in_X9 tyX9_ok wd_394 wd_395 wd_341 (by decide +kernel) rfl (fun _ _ => rfl)))))
    (ok_node
    (ok_node
    (ok_leaf (ok_dup (show decode cX10_init 120 = .ok (.dup, 1) by decide +kernel)))
    (ok_leaf (ok_callIN (Mc := M_X9_init) (show decode cX10_init 121 = .ok (.invokespecial 67, 3) by decide +kernel) rfl (by decide) (by decide +kernel) rfl rfl (by decide +kernel) wd_396 wd_341 wd_397 ⟨by decide +kernel, by decide +kernel, by decide +kernel⟩ (by decide))))
    (ok_node
    (ok_leaf (ok_putR (show decode cX10_init 124 = .ok (.putfield 68, 3) by decide +kernel) (Or.inr ⟨fdF_X10 (by decide) wd_398 rfl rfl, rfl, fun r hr => by cases hr; rfl⟩) (Or.inl ⟨_, rfl⟩)))
    (ok_leaf (ok_return (show decode cX10_init 127 = .ok (.return_, 1) by decide +kernel) rfl)))))))
set_option maxRecDepth 20000 in
set_option maxHeartbeats 4000000 in
theorem ok_X10_type {sc : List Int32} : ∀ pc, pOk mtOf 189 M_X10_type false sc pc (cd_X10_type pc) := by
  unfold cd_X10_type
  exact ok_node
    (ok_node
    (ok_node
    (ok_node
    (ok_leaf (ok_iload_n (show decode cX10_type 0 = .ok (.iload_n 1, 1) by decide +kernel) rfl))
    (ok_leaf (ok_if_lt (show decode cX10_type 1 = .ok (.ifCond .lt 9, 3) by decide +kernel) (by decide +kernel))))
    (ok_node
    (ok_leaf (ok_iload_n (show decode cX10_type 4 = .ok (.iload_n 1, 1) by decide +kernel) rfl))
    (ok_node
    (ok_leaf (ok_bipush (show decode cX10_type 5 = .ok (.bipush 127, 2) by decide +kernel) (by decide +kernel)))
    (ok_leaf (ok_icmp_le (show decode cX10_type 7 = .ok (.if_icmp .le 10, 3) by decide +kernel) (by decide +kernel))))))
    (ok_node
    (ok_node
    (ok_leaf (ok_aload_n (show decode cX10_type 10 = .ok (.aload_n 0, 1) by decide +kernel) rfl))
    (ok_node
    (ok_leaf (ok_bipush (show decode cX10_type 11 = .ok (.bipush (-2), 2) by decide +kernel) (by decide +kernel)))
    (ok_leaf (ok_callV (C := RX10) (T := TX10) (N := 12) (Mc := M_X10_refuse) (show decode cX10_type 13 = .ok (.invokevirtual 72, 3) by decide +kernel) rfl (by decide) (by decide +kernel) rfl rfl wd_399 wd_400 wd_401 wd_65 wd_402 ⟨by decide +kernel, by decide +kernel, by decide +kernel⟩ (by decide)))))
    (ok_node
    (ok_leaf (ok_ireturn (show decode cX10_type 16 = .ok (.ireturn, 1) by decide +kernel) rfl))
    (ok_node
    (ok_leaf (ok_aload_n (show decode cX10_type 17 = .ok (.aload_n 0, 1) by decide +kernel) rfl))
    (ok_leaf (ok_getfield (show decode cX10_type 18 = .ok (.getfield 10, 3) by decide +kernel) (Or.inr (fdF_X10 (by decide) wd_359 rfl rfl))))))))
    (ok_node
    (ok_node
    (ok_node
    (ok_leaf (ok_iload_n (show decode cX10_type 21 = .ok (.iload_n 1, 1) by decide +kernel) rfl))
    (ok_leaf (ok_callV (C := RX8) (T := TX8) (N := 5) (Mc := M_X8_append) (show decode cX10_type 22 = .ok (.invokevirtual 76, 3) by decide +kernel) rfl (by decide) (by decide +kernel) rfl rfl wd_403 wd_404 wd_405 wd_303 wd_406 ⟨by decide +kernel, by decide +kernel, by decide +kernel⟩ (by decide))))
    (ok_node
    (ok_leaf (ok_if_eq (show decode cX10_type 25 = .ok (.ifCond .eq 13, 3) by decide +kernel) (by decide +kernel)))
    (ok_node
    (ok_leaf (ok_aload_n (show decode cX10_type 28 = .ok (.aload_n 0, 1) by decide +kernel) rfl))
    (ok_leaf (ok_getfield (show decode cX10_type 29 = .ok (.getfield 10, 3) by decide +kernel) (Or.inr (fdF_X10 (by decide) wd_359 rfl rfl)))))))
    (ok_node
    (ok_node
    (ok_leaf (ok_callV (C := RX8) (T := TX8) (N := 5) (Mc := M_X8_length) (show decode cX10_type 32 = .ok (.invokevirtual 80, 3) by decide +kernel) rfl (by decide) (by decide +kernel) rfl rfl wd_407 wd_408 wd_409 wd_303 wd_410 ⟨by decide +kernel, by decide +kernel, by decide +kernel⟩ (by decide)))
    (ok_node
    (ok_leaf (ok_goto (show decode cX10_type 35 = .ok (.goto 9, 3) by decide +kernel) (by decide +kernel)))
    (ok_leaf (ok_aload_n (show decode cX10_type 38 = .ok (.aload_n 0, 1) by decide +kernel) rfl))))
    (ok_node
    (ok_leaf (ok_bipush (show decode cX10_type 39 = .ok (.bipush (-4), 2) by decide +kernel) (by decide +kernel)))
    (ok_node
    (ok_leaf (ok_callV (C := RX10) (T := TX10) (N := 12) (Mc := M_X10_refuse) (show decode cX10_type 41 = .ok (.invokevirtual 72, 3) by decide +kernel) rfl (by decide) (by decide +kernel) rfl rfl wd_399 wd_400 wd_401 wd_65 wd_402 ⟨by decide +kernel, by decide +kernel, by decide +kernel⟩ (by decide)))
    (ok_leaf (ok_ireturn (show decode cX10_type 44 = .ok (.ireturn, 1) by decide +kernel) rfl))))))
set_option maxRecDepth 20000 in
set_option maxHeartbeats 4000000 in
theorem ok_X10_clear {sc : List Int32} : ∀ pc, pOk mtOf 189 M_X10_clear false sc pc (cd_X10_clear pc) := by
  unfold cd_X10_clear
  exact ok_node
    (ok_node
    (ok_node
    (ok_leaf (ok_aload_n (show decode cX10_clear 0 = .ok (.aload_n 0, 1) by decide +kernel) rfl))
    (ok_leaf (ok_getfield (show decode cX10_clear 1 = .ok (.getfield 10, 3) by decide +kernel) (Or.inr (fdF_X10 (by decide) wd_359 rfl rfl)))))
    (ok_node
    (ok_leaf (ok_callV (C := RX8) (T := TX8) (N := 5) (Mc := M_X8_length) (show decode cX10_clear 4 = .ok (.invokevirtual 80, 3) by decide +kernel) rfl (by decide) (by decide +kernel) rfl rfl wd_407 wd_408 wd_409 wd_303 wd_410 ⟨by decide +kernel, by decide +kernel, by decide +kernel⟩ (by decide)))
    (ok_leaf (ok_istore_n (show decode cX10_clear 7 = .ok (.istore_n 1, 1) by decide +kernel) rfl))))
    (ok_node
    (ok_node
    (ok_leaf (ok_aload_n (show decode cX10_clear 8 = .ok (.aload_n 0, 1) by decide +kernel) rfl))
    (ok_leaf (ok_getfield (show decode cX10_clear 9 = .ok (.getfield 10, 3) by decide +kernel) (Or.inr (fdF_X10 (by decide) wd_359 rfl rfl)))))
    (ok_node
    (ok_leaf (ok_callV (C := RX8) (T := TX8) (N := 5) (Mc := M_X8_erase) (show decode cX10_clear 12 = .ok (.invokevirtual 84, 3) by decide +kernel) rfl (by decide) (by decide +kernel) rfl rfl wd_411 wd_412 wd_413 wd_303 wd_414 ⟨by decide +kernel, by decide +kernel, by decide +kernel⟩ (by decide)))
    (ok_node
    (ok_leaf (ok_iload_n (show decode cX10_clear 15 = .ok (.iload_n 1, 1) by decide +kernel) rfl))
    (ok_leaf (ok_ireturn (show decode cX10_clear 16 = .ok (.ireturn, 1) by decide +kernel) rfl)))))
set_option maxRecDepth 20000 in
set_option maxHeartbeats 4000000 in
theorem ok_X10_reads {sc : List Int32} : ∀ pc, pOk mtOf 189 M_X10_reads false sc pc (cd_X10_reads pc) := by
  unfold cd_X10_reads
  exact ok_node
    (ok_node
    (ok_node
    (ok_node
    (ok_node
    (ok_leaf (ok_aload_n (show decode cX10_reads 0 = .ok (.aload_n 0, 1) by decide +kernel) rfl))
    (ok_leaf (ok_getfield (show decode cX10_reads 1 = .ok (.getfield 10, 3) by decide +kernel) (Or.inr (fdF_X10 (by decide) wd_359 rfl rfl)))))
    (ok_node
    (ok_leaf (ok_aload_n (show decode cX10_reads 4 = .ok (.aload_n 0, 1) by decide +kernel) rfl))
    (ok_leaf (ok_getfield (show decode cX10_reads 5 = .ok (.getfield 23, 3) by decide +kernel) (Or.inr (fdF_X10 (by decide) wd_362 rfl rfl))))))
    (ok_node
    (ok_node
    (ok_leaf (ok_callV (C := RX8) (T := TX8) (N := 5) (Mc := M_X8_readInto) (show decode cX10_reads 8 = .ok (.invokevirtual 87, 3) by decide +kernel) rfl (by decide) (by decide +kernel) rfl rfl wd_415 wd_416 wd_417 wd_303 wd_418 ⟨by decide +kernel, by decide +kernel, by decide +kernel⟩ (by decide)))
    (ok_leaf (ok_istore_n (show decode cX10_reads 11 = .ok (.istore_n 1, 1) by decide +kernel) rfl)))
    (ok_node
    (ok_leaf (ok_iload_n (show decode cX10_reads 12 = .ok (.iload_n 1, 1) by decide +kernel) rfl))
    (ok_leaf (ok_iconst (show decode cX10_reads 13 = .ok (.iconst (-1), 1) by decide +kernel) (by decide +kernel))))))
    (ok_node
    (ok_node
    (ok_node
    (ok_leaf (ok_icmp_eq (show decode cX10_reads 14 = .ok (.if_icmp .eq 8, 3) by decide +kernel) (by decide +kernel)))
    (ok_leaf (ok_bipush (show decode cX10_reads 17 = .ok (.bipush (-10), 2) by decide +kernel) (by decide +kernel))))
    (ok_node
    (ok_leaf (ok_iload_n (show decode cX10_reads 19 = .ok (.iload_n 1, 1) by decide +kernel) rfl))
    (ok_leaf (ok_isub (show decode cX10_reads 20 = .ok (.isub, 1) by decide +kernel)))))
    (ok_node
    (ok_node
    (ok_leaf (ok_ireturn (show decode cX10_reads 21 = .ok (.ireturn, 1) by decide +kernel) rfl))
    (ok_leaf (ok_aload_n (show decode cX10_reads 22 = .ok (.aload_n 0, 1) by decide +kernel) rfl)))
    (ok_node
    (ok_leaf (ok_getfield (show decode cX10_reads 23 = .ok (.getfield 29, 3) by decide +kernel) (Or.inr (fdF_X10 (by decide) wd_369 rfl rfl))))
    (ok_leaf (ok_aload_n (show decode cX10_reads 26 = .ok (.aload_n 0, 1) by decide +kernel) rfl))))))
    (ok_node
    (ok_node
    (ok_node
    (ok_node
    (ok_leaf (ok_getfield (show decode cX10_reads 27 = .ok (.getfield 19, 3) by decide +kernel) (Or.inr (fdF_X10 (by decide) wd_361 rfl rfl))))
    (ok_leaf (ok_callV (C := RX4) (T := TX4) (N := 2) (Mc := M_X4_push) (show decode cX10_reads 30 = .ok (.invokevirtual 91, 3) by decide +kernel) rfl (by decide) (by decide +kernel) rfl rfl wd_419 wd_420 wd_421 wd_365 wd_422 ⟨by decide +kernel, by decide +kernel, by decide +kernel⟩ (by decide))))
    (ok_node
    (ok_leaf (ok_aload_n (show decode cX10_reads 33 = .ok (.aload_n 0, 1) by decide +kernel) rfl))
    (ok_leaf (ok_getfield (show decode cX10_reads 34 = .ok (.getfield 19, 3) by decide +kernel) (Or.inr (fdF_X10 (by decide) wd_361 rfl rfl))))))
    (ok_node
    (ok_node
    (ok_leaf (ok_aload_n (show decode cX10_reads 37 = .ok (.aload_n 0, 1) by decide +kernel) rfl))
    (ok_leaf (ok_getfield (show decode cX10_reads 38 = .ok (.getfield 23, 3) by decide +kernel) (Or.inr (fdF_X10 (by decide) wd_362 rfl rfl)))))
    (ok_node
    (ok_leaf (ok_callV (C := RX2) (T := TX2) (N := 7) (Mc := M_X2_copyFrom) (show decode cX10_reads 41 = .ok (.invokevirtual 94, 3) by decide +kernel) rfl (by decide) (by decide +kernel) rfl rfl wd_423 wd_162 wd_163 wd_58 wd_164 ⟨by decide +kernel, by decide +kernel, by decide +kernel⟩ (by decide)))
    (ok_leaf (ok_aload_n (show decode cX10_reads 44 = .ok (.aload_n 0, 1) by decide +kernel) rfl)))))
    (ok_node
    (ok_node
    (ok_node
    (ok_leaf (ok_callV (C := RX10) (T := TX10) (N := 12) (Mc := M_X10_arrange) (show decode cX10_reads 45 = .ok (.invokevirtual 97, 3) by decide +kernel) rfl (by decide) (by decide +kernel) rfl rfl wd_424 wd_425 wd_426 wd_65 wd_427 ⟨by decide +kernel, by decide +kernel, by decide +kernel⟩ (by decide)))
    (ok_leaf (ok_aload_n (show decode cX10_reads 48 = .ok (.aload_n 0, 1) by decide +kernel) rfl)))
    (ok_node
    (ok_leaf (ok_getfield (show decode cX10_reads 49 = .ok (.getfield 61, 3) by decide +kernel) (Or.inr (fdF_X10 (by decide) wd_393 rfl rfl))))
    (ok_leaf (ok_callV (C := RX7) (T := TX7) (N := 10) (Mc := M_X7_forget) (show decode cX10_reads 52 = .ok (.invokevirtual 100, 3) by decide +kernel) rfl (by decide) (by decide +kernel) rfl rfl wd_428 wd_429 wd_430 wd_218 wd_431 ⟨by decide +kernel, by decide +kernel, by decide +kernel⟩ (by decide)))))
    (ok_node
    (ok_node
    (ok_leaf (ok_aload_n (show decode cX10_reads 55 = .ok (.aload_n 0, 1) by decide +kernel) rfl))
    (ok_leaf (ok_getfield (show decode cX10_reads 56 = .ok (.getfield 19, 3) by decide +kernel) (Or.inr (fdF_X10 (by decide) wd_361 rfl rfl)))))
    (ok_node
    (ok_leaf (ok_callV (C := RX2) (T := TX2) (N := 7) (Mc := M_X2_count) (show decode cX10_reads 59 = .ok (.invokevirtual 103, 3) by decide +kernel) rfl (by decide) (by decide +kernel) rfl rfl wd_432 wd_56 wd_57 wd_58 wd_59 ⟨by decide +kernel, by decide +kernel, by decide +kernel⟩ (by decide)))
    (ok_leaf (ok_ireturn (show decode cX10_reads 62 = .ok (.ireturn, 1) by decide +kernel) rfl))))))
set_option maxRecDepth 20000 in
set_option maxHeartbeats 4000000 in
theorem ok_X10_drops {sc : List Int32} : ∀ pc, pOk mtOf 189 M_X10_drops false sc pc (cd_X10_drops pc) := by
  unfold cd_X10_drops
  exact ok_node
    (ok_node
    (ok_node
    (ok_node
    (ok_leaf (ok_aload_n (show decode cX10_drops 0 = .ok (.aload_n 0, 1) by decide +kernel) rfl))
    (ok_node
    (ok_leaf (ok_getfield (show decode cX10_drops 1 = .ok (.getfield 19, 3) by decide +kernel) (Or.inr (fdF_X10 (by decide) wd_361 rfl rfl))))
    (ok_leaf (ok_iload_n (show decode cX10_drops 4 = .ok (.iload_n 1, 1) by decide +kernel) rfl))))
    (ok_node
    (ok_leaf (ok_callV (C := RX2) (T := TX2) (N := 7) (Mc := M_X2_has) (show decode cX10_drops 5 = .ok (.invokevirtual 106, 3) by decide +kernel) rfl (by decide) (by decide +kernel) rfl rfl wd_433 wd_61 wd_62 wd_58 wd_63 ⟨by decide +kernel, by decide +kernel, by decide +kernel⟩ (by decide)))
    (ok_node
    (ok_leaf (ok_if_ne (show decode cX10_drops 8 = .ok (.ifCond .ne 10, 3) by decide +kernel) (by decide +kernel)))
    (ok_leaf (ok_aload_n (show decode cX10_drops 11 = .ok (.aload_n 0, 1) by decide +kernel) rfl)))))
    (ok_node
    (ok_node
    (ok_leaf (ok_bipush (show decode cX10_drops 12 = .ok (.bipush (-2), 2) by decide +kernel) (by decide +kernel)))
    (ok_node
    (ok_leaf (ok_callV (C := RX10) (T := TX10) (N := 12) (Mc := M_X10_refuse) (show decode cX10_drops 14 = .ok (.invokevirtual 72, 3) by decide +kernel) rfl (by decide) (by decide +kernel) rfl rfl wd_399 wd_400 wd_401 wd_65 wd_402 ⟨by decide +kernel, by decide +kernel, by decide +kernel⟩ (by decide)))
    (ok_leaf (ok_ireturn (show decode cX10_drops 17 = .ok (.ireturn, 1) by decide +kernel) rfl))))
    (ok_node
    (ok_node
    (ok_leaf (ok_aload_n (show decode cX10_drops 18 = .ok (.aload_n 0, 1) by decide +kernel) rfl))
    (ok_leaf (ok_getfield (show decode cX10_drops 19 = .ok (.getfield 29, 3) by decide +kernel) (Or.inr (fdF_X10 (by decide) wd_369 rfl rfl)))))
    (ok_node
    (ok_leaf (ok_aload_n (show decode cX10_drops 22 = .ok (.aload_n 0, 1) by decide +kernel) rfl))
    (ok_leaf (ok_getfield (show decode cX10_drops 23 = .ok (.getfield 19, 3) by decide +kernel) (Or.inr (fdF_X10 (by decide) wd_361 rfl rfl))))))))
    (ok_node
    (ok_node
    (ok_node
    (ok_leaf (ok_callV (C := RX4) (T := TX4) (N := 2) (Mc := M_X4_push) (show decode cX10_drops 26 = .ok (.invokevirtual 91, 3) by decide +kernel) rfl (by decide) (by decide +kernel) rfl rfl wd_419 wd_420 wd_421 wd_365 wd_422 ⟨by decide +kernel, by decide +kernel, by decide +kernel⟩ (by decide)))
    (ok_node
    (ok_leaf (ok_aload_n (show decode cX10_drops 29 = .ok (.aload_n 0, 1) by decide +kernel) rfl))
    (ok_leaf (ok_getfield (show decode cX10_drops 30 = .ok (.getfield 19, 3) by decide +kernel) (Or.inr (fdF_X10 (by decide) wd_361 rfl rfl))))))
    (ok_node
    (ok_node
    (ok_leaf (ok_iload_n (show decode cX10_drops 33 = .ok (.iload_n 1, 1) by decide +kernel) rfl))
    (ok_leaf (ok_callV (C := RX2) (T := TX2) (N := 7) (Mc := M_X2_remove) (show decode cX10_drops 34 = .ok (.invokevirtual 109, 3) by decide +kernel) rfl (by decide) (by decide +kernel) rfl rfl wd_434 wd_435 wd_436 wd_58 wd_437 ⟨by decide +kernel, by decide +kernel, by decide +kernel⟩ (by decide))))
    (ok_node
    (ok_leaf (ok_aload_n (show decode cX10_drops 37 = .ok (.aload_n 0, 1) by decide +kernel) rfl))
    (ok_leaf (ok_callV (C := RX10) (T := TX10) (N := 12) (Mc := M_X10_arrange) (show decode cX10_drops 38 = .ok (.invokevirtual 97, 3) by decide +kernel) rfl (by decide) (by decide +kernel) rfl rfl wd_424 wd_425 wd_426 wd_65 wd_427 ⟨by decide +kernel, by decide +kernel, by decide +kernel⟩ (by decide))))))
    (ok_node
    (ok_node
    (ok_leaf (ok_aload_n (show decode cX10_drops 41 = .ok (.aload_n 0, 1) by decide +kernel) rfl))
    (ok_node
    (ok_leaf (ok_getfield (show decode cX10_drops 42 = .ok (.getfield 61, 3) by decide +kernel) (Or.inr (fdF_X10 (by decide) wd_393 rfl rfl))))
    (ok_leaf (ok_callV (C := RX7) (T := TX7) (N := 10) (Mc := M_X7_forget) (show decode cX10_drops 45 = .ok (.invokevirtual 100, 3) by decide +kernel) rfl (by decide) (by decide +kernel) rfl rfl wd_428 wd_429 wd_430 wd_218 wd_431 ⟨by decide +kernel, by decide +kernel, by decide +kernel⟩ (by decide)))))
    (ok_node
    (ok_node
    (ok_leaf (ok_aload_n (show decode cX10_drops 48 = .ok (.aload_n 0, 1) by decide +kernel) rfl))
    (ok_leaf (ok_getfield (show decode cX10_drops 49 = .ok (.getfield 19, 3) by decide +kernel) (Or.inr (fdF_X10 (by decide) wd_361 rfl rfl)))))
    (ok_node
    (ok_leaf (ok_callV (C := RX2) (T := TX2) (N := 7) (Mc := M_X2_count) (show decode cX10_drops 52 = .ok (.invokevirtual 103, 3) by decide +kernel) rfl (by decide) (by decide +kernel) rfl rfl wd_432 wd_56 wd_57 wd_58 wd_59 ⟨by decide +kernel, by decide +kernel, by decide +kernel⟩ (by decide)))
    (ok_leaf (ok_ireturn (show decode cX10_drops 55 = .ok (.ireturn, 1) by decide +kernel) rfl))))))
set_option maxRecDepth 20000 in
set_option maxHeartbeats 4000000 in
theorem ok_X10_turns {sc : List Int32} : ∀ pc, pOk mtOf 189 M_X10_turns false sc pc (cd_X10_turns pc) := by
  unfold cd_X10_turns
  exact ok_node
    (ok_node
    (ok_node
    (ok_node
    (ok_leaf (ok_aload_n (show decode cX10_turns 0 = .ok (.aload_n 0, 1) by decide +kernel) rfl))
    (ok_node
    (ok_leaf (ok_getfield (show decode cX10_turns 1 = .ok (.getfield 19, 3) by decide +kernel) (Or.inr (fdF_X10 (by decide) wd_361 rfl rfl))))
    (ok_leaf (ok_iload_n (show decode cX10_turns 4 = .ok (.iload_n 1, 1) by decide +kernel) rfl))))
    (ok_node
    (ok_node
    (ok_leaf (ok_callV (C := RX2) (T := TX2) (N := 7) (Mc := M_X2_has) (show decode cX10_turns 5 = .ok (.invokevirtual 106, 3) by decide +kernel) rfl (by decide) (by decide +kernel) rfl rfl wd_433 wd_61 wd_62 wd_58 wd_63 ⟨by decide +kernel, by decide +kernel, by decide +kernel⟩ (by decide)))
    (ok_leaf (ok_if_ne (show decode cX10_turns 8 = .ok (.ifCond .ne 10, 3) by decide +kernel) (by decide +kernel))))
    (ok_node
    (ok_leaf (ok_aload_n (show decode cX10_turns 11 = .ok (.aload_n 0, 1) by decide +kernel) rfl))
    (ok_leaf (ok_bipush (show decode cX10_turns 12 = .ok (.bipush (-2), 2) by decide +kernel) (by decide +kernel))))))
    (ok_node
    (ok_node
    (ok_leaf (ok_callV (C := RX10) (T := TX10) (N := 12) (Mc := M_X10_refuse) (show decode cX10_turns 14 = .ok (.invokevirtual 72, 3) by decide +kernel) rfl (by decide) (by decide +kernel) rfl rfl wd_399 wd_400 wd_401 wd_65 wd_402 ⟨by decide +kernel, by decide +kernel, by decide +kernel⟩ (by decide)))
    (ok_node
    (ok_leaf (ok_ireturn (show decode cX10_turns 17 = .ok (.ireturn, 1) by decide +kernel) rfl))
    (ok_leaf (ok_aload_n (show decode cX10_turns 18 = .ok (.aload_n 0, 1) by decide +kernel) rfl))))
    (ok_node
    (ok_node
    (ok_leaf (ok_getfield (show decode cX10_turns 19 = .ok (.getfield 29, 3) by decide +kernel) (Or.inr (fdF_X10 (by decide) wd_369 rfl rfl))))
    (ok_leaf (ok_aload_n (show decode cX10_turns 22 = .ok (.aload_n 0, 1) by decide +kernel) rfl)))
    (ok_node
    (ok_leaf (ok_getfield (show decode cX10_turns 23 = .ok (.getfield 19, 3) by decide +kernel) (Or.inr (fdF_X10 (by decide) wd_361 rfl rfl))))
    (ok_leaf (ok_callV (C := RX4) (T := TX4) (N := 2) (Mc := M_X4_push) (show decode cX10_turns 26 = .ok (.invokevirtual 91, 3) by decide +kernel) rfl (by decide) (by decide +kernel) rfl rfl wd_419 wd_420 wd_421 wd_365 wd_422 ⟨by decide +kernel, by decide +kernel, by decide +kernel⟩ (by decide)))))))
    (ok_node
    (ok_node
    (ok_node
    (ok_leaf (ok_aload_n (show decode cX10_turns 29 = .ok (.aload_n 0, 1) by decide +kernel) rfl))
    (ok_node
    (ok_leaf (ok_getfield (show decode cX10_turns 30 = .ok (.getfield 19, 3) by decide +kernel) (Or.inr (fdF_X10 (by decide) wd_361 rfl rfl))))
    (ok_leaf (ok_iload_n (show decode cX10_turns 33 = .ok (.iload_n 1, 1) by decide +kernel) rfl))))
    (ok_node
    (ok_node
    (ok_leaf (ok_callV (C := RX2) (T := TX2) (N := 7) (Mc := M_X2_turn) (show decode cX10_turns 34 = .ok (.invokevirtual 113, 3) by decide +kernel) rfl (by decide) (by decide +kernel) rfl rfl wd_438 wd_439 wd_440 wd_58 wd_441 ⟨by decide +kernel, by decide +kernel, by decide +kernel⟩ (by decide)))
    (ok_leaf (ok_aload_n (show decode cX10_turns 37 = .ok (.aload_n 0, 1) by decide +kernel) rfl)))
    (ok_node
    (ok_leaf (ok_callV (C := RX10) (T := TX10) (N := 12) (Mc := M_X10_arrange) (show decode cX10_turns 38 = .ok (.invokevirtual 97, 3) by decide +kernel) rfl (by decide) (by decide +kernel) rfl rfl wd_424 wd_425 wd_426 wd_65 wd_427 ⟨by decide +kernel, by decide +kernel, by decide +kernel⟩ (by decide)))
    (ok_leaf (ok_aload_n (show decode cX10_turns 41 = .ok (.aload_n 0, 1) by decide +kernel) rfl)))))
    (ok_node
    (ok_node
    (ok_node
    (ok_leaf (ok_getfield (show decode cX10_turns 42 = .ok (.getfield 19, 3) by decide +kernel) (Or.inr (fdF_X10 (by decide) wd_361 rfl rfl))))
    (ok_leaf (ok_aload_n (show decode cX10_turns 45 = .ok (.aload_n 0, 1) by decide +kernel) rfl)))
    (ok_node
    (ok_leaf (ok_getfield (show decode cX10_turns 46 = .ok (.getfield 19, 3) by decide +kernel) (Or.inr (fdF_X10 (by decide) wd_361 rfl rfl))))
    (ok_leaf (ok_iload_n (show decode cX10_turns 49 = .ok (.iload_n 1, 1) by decide +kernel) rfl))))
    (ok_node
    (ok_node
    (ok_leaf (ok_iconst (show decode cX10_turns 50 = .ok (.iconst 0, 1) by decide +kernel) (by decide +kernel)))
    (ok_leaf (ok_callV (C := RX2) (T := TX2) (N := 7) (Mc := M_X2_start) (show decode cX10_turns 51 = .ok (.invokevirtual 116, 3) by decide +kernel) rfl (by decide) (by decide +kernel) rfl rfl wd_442 wd_194 wd_195 wd_58 wd_196 ⟨by decide +kernel, by decide +kernel, by decide +kernel⟩ (by decide))))
    (ok_node
    (ok_leaf (ok_callV (C := RX2) (T := TX2) (N := 7) (Mc := M_X2_nodesAt) (show decode cX10_turns 54 = .ok (.invokevirtual 120, 3) by decide +kernel) rfl (by decide) (by decide +kernel) rfl rfl wd_443 wd_90 wd_91 wd_58 wd_92 ⟨by decide +kernel, by decide +kernel, by decide +kernel⟩ (by decide)))
    (ok_leaf (ok_ireturn (show decode cX10_turns 57 = .ok (.ireturn, 1) by decide +kernel) rfl))))))
set_option maxRecDepth 20000 in
set_option maxHeartbeats 4000000 in
theorem ok_X10_of {sc : List Int32} : ∀ pc, pOk mtOf 189 M_X10_of false sc pc (cd_X10_of pc) := by
  unfold cd_X10_of
  exact ok_node
    (ok_node
    (ok_node
    (ok_node
    (ok_leaf (ok_aload_n (show decode cX10_of 0 = .ok (.aload_n 0, 1) by decide +kernel) rfl))
    (ok_leaf (ok_getfield (show decode cX10_of 1 = .ok (.getfield 19, 3) by decide +kernel) (Or.inr (fdF_X10 (by decide) wd_361 rfl rfl)))))
    (ok_node
    (ok_leaf (ok_iload_n (show decode cX10_of 4 = .ok (.iload_n 1, 1) by decide +kernel) rfl))
    (ok_node
    (ok_leaf (ok_callV (C := RX2) (T := TX2) (N := 7) (Mc := M_X2_has) (show decode cX10_of 5 = .ok (.invokevirtual 106, 3) by decide +kernel) rfl (by decide) (by decide +kernel) rfl rfl wd_433 wd_61 wd_62 wd_58 wd_63 ⟨by decide +kernel, by decide +kernel, by decide +kernel⟩ (by decide)))
    (ok_leaf (ok_if_eq (show decode cX10_of 8 = .ok (.ifCond .eq 19, 3) by decide +kernel) (by decide +kernel))))))
    (ok_node
    (ok_node
    (ok_leaf (ok_iload_n (show decode cX10_of 11 = .ok (.iload_n 2, 1) by decide +kernel) rfl))
    (ok_node
    (ok_leaf (ok_callS (Mc := M_X10_isSide) (show decode cX10_of 12 = .ok (.invokestatic 123, 3) by decide +kernel) rfl (by decide) (by decide +kernel) wd_444 wd_64 wd_65 wd_66 ⟨by decide +kernel, by decide +kernel, by decide +kernel⟩ (by decide)))
    (ok_leaf (ok_if_eq (show decode cX10_of 15 = .ok (.ifCond .eq 12, 3) by decide +kernel) (by decide +kernel)))))
    (ok_node
    (ok_leaf (ok_iload_n (show decode cX10_of 18 = .ok (.iload_n 3, 1) by decide +kernel) rfl))
    (ok_node
    (ok_leaf (ok_if_lt (show decode cX10_of 19 = .ok (.ifCond .lt 8, 3) by decide +kernel) (by decide +kernel)))
    (ok_leaf (ok_iload_n (show decode cX10_of 22 = .ok (.iload_n 3, 1) by decide +kernel) rfl))))))
    (ok_node
    (ok_node
    (ok_node
    (ok_leaf (ok_iconst (show decode cX10_of 23 = .ok (.iconst 4, 1) by decide +kernel) (by decide +kernel)))
    (ok_node
    (ok_leaf (ok_icmp_lt (show decode cX10_of 24 = .ok (.if_icmp .lt 10, 3) by decide +kernel) (by decide +kernel)))
    (ok_leaf (ok_aload_n (show decode cX10_of 27 = .ok (.aload_n 0, 1) by decide +kernel) rfl))))
    (ok_node
    (ok_leaf (ok_bipush (show decode cX10_of 28 = .ok (.bipush (-2), 2) by decide +kernel) (by decide +kernel)))
    (ok_node
    (ok_leaf (ok_callV (C := RX10) (T := TX10) (N := 12) (Mc := M_X10_refuse) (show decode cX10_of 30 = .ok (.invokevirtual 72, 3) by decide +kernel) rfl (by decide) (by decide +kernel) rfl rfl wd_399 wd_400 wd_401 wd_65 wd_402 ⟨by decide +kernel, by decide +kernel, by decide +kernel⟩ (by decide)))
    (ok_leaf (ok_ireturn (show decode cX10_of 33 = .ok (.ireturn, 1) by decide +kernel) rfl)))))
    (ok_node
    (ok_node
    (ok_leaf (ok_aload_n (show decode cX10_of 34 = .ok (.aload_n 0, 1) by decide +kernel) rfl))
    (ok_node
    (ok_leaf (ok_iload_n (show decode cX10_of 35 = .ok (.iload_n 1, 1) by decide +kernel) rfl))
    (ok_leaf (ok_iload_n (show decode cX10_of 36 = .ok (.iload_n 2, 1) by decide +kernel) rfl))))
    (ok_node
    (ok_leaf (ok_iload_n (show decode cX10_of 37 = .ok (.iload_n 3, 1) by decide +kernel) rfl))
    (ok_node
    (ok_leaf (ok_callV (C := RX10) (T := TX10) (N := 12) (Mc := M_X10_sideFact) (show decode cX10_of 38 = .ok (.invokevirtual 126, 3) by decide +kernel) rfl (by decide) (by decide +kernel) rfl rfl wd_445 wd_446 wd_447 wd_65 wd_448 ⟨by decide +kernel, by decide +kernel, by decide +kernel⟩ (by decide)))
    (ok_leaf (ok_ireturn (show decode cX10_of 41 = .ok (.ireturn, 1) by decide +kernel) rfl))))))
set_option maxRecDepth 20000 in
set_option maxHeartbeats 4000000 in
theorem ok_X10_shown {sc : List Int32} : ∀ pc, pOk mtOf 189 M_X10_shown false sc pc (cd_X10_shown pc) := by
  unfold cd_X10_shown
  exact ok_node
    (ok_node
    (ok_node
    (ok_node
    (ok_node
    (ok_leaf (ok_aload_n (show decode cX10_shown 0 = .ok (.aload_n 0, 1) by decide +kernel) rfl))
    (ok_node
    (ok_leaf (ok_getfield (show decode cX10_shown 1 = .ok (.getfield 19, 3) by decide +kernel) (Or.inr (fdF_X10 (by decide) wd_361 rfl rfl))))
    (ok_leaf (ok_iload_n (show decode cX10_shown 4 = .ok (.iload_n 1, 1) by decide +kernel) rfl))))
    (ok_node
    (ok_leaf (ok_callV (C := RX2) (T := TX2) (N := 7) (Mc := M_X2_has) (show decode cX10_shown 5 = .ok (.invokevirtual 106, 3) by decide +kernel) rfl (by decide) (by decide +kernel) rfl rfl wd_433 wd_61 wd_62 wd_58 wd_63 ⟨by decide +kernel, by decide +kernel, by decide +kernel⟩ (by decide)))
    (ok_node
    (ok_leaf (ok_if_eq (show decode cX10_shown 8 = .ok (.ifCond .eq 8, 3) by decide +kernel) (by decide +kernel)))
    (ok_leaf (ok_iload_n (show decode cX10_shown 11 = .ok (.iload_n 2, 1) by decide +kernel) rfl)))))
    (ok_node
    (ok_node
    (ok_leaf (ok_iconst (show decode cX10_shown 12 = .ok (.iconst (-1), 1) by decide +kernel) (by decide +kernel)))
    (ok_node
    (ok_leaf (ok_icmp_ge (show decode cX10_shown 13 = .ok (.if_icmp .ge 10, 3) by decide +kernel) (by decide +kernel)))
    (ok_leaf (ok_aload_n (show decode cX10_shown 16 = .ok (.aload_n 0, 1) by decide +kernel) rfl))))
    (ok_node
    (ok_leaf (ok_bipush (show decode cX10_shown 17 = .ok (.bipush (-2), 2) by decide +kernel) (by decide +kernel)))
    (ok_node
    (ok_leaf (ok_callV (C := RX10) (T := TX10) (N := 12) (Mc := M_X10_refuse) (show decode cX10_shown 19 = .ok (.invokevirtual 72, 3) by decide +kernel) rfl (by decide) (by decide +kernel) rfl rfl wd_399 wd_400 wd_401 wd_65 wd_402 ⟨by decide +kernel, by decide +kernel, by decide +kernel⟩ (by decide)))
    (ok_leaf (ok_ireturn (show decode cX10_shown 22 = .ok (.ireturn, 1) by decide +kernel) rfl))))))
    (ok_node
    (ok_node
    (ok_node
    (ok_leaf (ok_aload_n (show decode cX10_shown 23 = .ok (.aload_n 0, 1) by decide +kernel) rfl))
    (ok_node
    (ok_leaf (ok_getfield (show decode cX10_shown 24 = .ok (.getfield 68, 3) by decide +kernel) (Or.inr (fdF_X10 (by decide) wd_398 rfl rfl))))
    (ok_leaf (ok_callV (C := RX9) (T := TX9) (N := 4) (Mc := M_X9_begin) (show decode cX10_shown 27 = .ok (.invokevirtual 130, 3) by decide +kernel) rfl (by decide) (by decide +kernel) rfl rfl wd_449 wd_450 wd_451 wd_341 wd_452 ⟨by decide +kernel, by decide +kernel, by decide +kernel⟩ (by decide)))))
    (ok_node
    (ok_leaf (ok_aload_n (show decode cX10_shown 30 = .ok (.aload_n 0, 1) by decide +kernel) rfl))
    (ok_node
    (ok_leaf (ok_getfield (show decode cX10_shown 31 = .ok (.getfield 68, 3) by decide +kernel) (Or.inr (fdF_X10 (by decide) wd_398 rfl rfl))))
    (ok_leaf (ok_aload_n (show decode cX10_shown 34 = .ok (.aload_n 0, 1) by decide +kernel) rfl)))))
    (ok_node
    (ok_node
    (ok_leaf (ok_getfield (show decode cX10_shown 35 = .ok (.getfield 19, 3) by decide +kernel) (Or.inr (fdF_X10 (by decide) wd_361 rfl rfl))))
    (ok_node
    (ok_leaf (ok_aload_n (show decode cX10_shown 38 = .ok (.aload_n 0, 1) by decide +kernel) rfl))
    (ok_leaf (ok_getfield (show decode cX10_shown 39 = .ok (.getfield 19, 3) by decide +kernel) (Or.inr (fdF_X10 (by decide) wd_361 rfl rfl))))))
    (ok_node
    (ok_node
    (ok_leaf (ok_iload_n (show decode cX10_shown 42 = .ok (.iload_n 1, 1) by decide +kernel) rfl))
    (ok_leaf (ok_iconst (show decode cX10_shown 43 = .ok (.iconst 0, 1) by decide +kernel) (by decide +kernel))))
    (ok_node
    (ok_leaf (ok_callV (C := RX2) (T := TX2) (N := 7) (Mc := M_X2_start) (show decode cX10_shown 44 = .ok (.invokevirtual 116, 3) by decide +kernel) rfl (by decide) (by decide +kernel) rfl rfl wd_442 wd_194 wd_195 wd_58 wd_196 ⟨by decide +kernel, by decide +kernel, by decide +kernel⟩ (by decide)))
    (ok_leaf (ok_callV (C := RX9) (T := TX9) (N := 4) (Mc := M_X9_putTerm) (show decode cX10_shown 47 = .ok (.invokevirtual 133, 3) by decide +kernel) rfl (by decide) (by decide +kernel) rfl rfl wd_453 wd_454 wd_455 wd_341 wd_456 ⟨by decide +kernel, by decide +kernel, by decide +kernel⟩ (by decide))))))))
    (ok_node
    (ok_node
    (ok_node
    (ok_node
    (ok_leaf (ok_aload_n (show decode cX10_shown 50 = .ok (.aload_n 0, 1) by decide +kernel) rfl))
    (ok_node
    (ok_leaf (ok_getfield (show decode cX10_shown 51 = .ok (.getfield 68, 3) by decide +kernel) (Or.inr (fdF_X10 (by decide) wd_398 rfl rfl))))
    (ok_leaf (ok_bipush (show decode cX10_shown 54 = .ok (.bipush 61, 2) by decide +kernel) (by decide +kernel)))))
    (ok_node
    (ok_leaf (ok_callV (C := RX9) (T := TX9) (N := 4) (Mc := M_X9_put) (show decode cX10_shown 56 = .ok (.invokevirtual 137, 3) by decide +kernel) rfl (by decide) (by decide +kernel) rfl rfl wd_457 wd_346 wd_347 wd_341 wd_348 ⟨by decide +kernel, by decide +kernel, by decide +kernel⟩ (by decide)))
    (ok_node
    (ok_leaf (ok_aload_n (show decode cX10_shown 59 = .ok (.aload_n 0, 1) by decide +kernel) rfl))
    (ok_leaf (ok_getfield (show decode cX10_shown 60 = .ok (.getfield 68, 3) by decide +kernel) (Or.inr (fdF_X10 (by decide) wd_398 rfl rfl)))))))
    (ok_node
    (ok_node
    (ok_leaf (ok_aload_n (show decode cX10_shown 63 = .ok (.aload_n 0, 1) by decide +kernel) rfl))
    (ok_node
    (ok_leaf (ok_getfield (show decode cX10_shown 64 = .ok (.getfield 19, 3) by decide +kernel) (Or.inr (fdF_X10 (by decide) wd_361 rfl rfl))))
    (ok_leaf (ok_aload_n (show decode cX10_shown 67 = .ok (.aload_n 0, 1) by decide +kernel) rfl))))
    (ok_node
    (ok_node
    (ok_leaf (ok_getfield (show decode cX10_shown 68 = .ok (.getfield 19, 3) by decide +kernel) (Or.inr (fdF_X10 (by decide) wd_361 rfl rfl))))
    (ok_leaf (ok_iload_n (show decode cX10_shown 71 = .ok (.iload_n 1, 1) by decide +kernel) rfl)))
    (ok_node
    (ok_leaf (ok_iconst (show decode cX10_shown 72 = .ok (.iconst 1, 1) by decide +kernel) (by decide +kernel)))
    (ok_leaf (ok_callV (C := RX2) (T := TX2) (N := 7) (Mc := M_X2_start) (show decode cX10_shown 73 = .ok (.invokevirtual 116, 3) by decide +kernel) rfl (by decide) (by decide +kernel) rfl rfl wd_442 wd_194 wd_195 wd_58 wd_196 ⟨by decide +kernel, by decide +kernel, by decide +kernel⟩ (by decide)))))))
    (ok_node
    (ok_node
    (ok_node
    (ok_leaf (ok_callV (C := RX9) (T := TX9) (N := 4) (Mc := M_X9_putTerm) (show decode cX10_shown 76 = .ok (.invokevirtual 133, 3) by decide +kernel) rfl (by decide) (by decide +kernel) rfl rfl wd_453 wd_454 wd_455 wd_341 wd_456 ⟨by decide +kernel, by decide +kernel, by decide +kernel⟩ (by decide)))
    (ok_node
    (ok_leaf (ok_iload_n (show decode cX10_shown 79 = .ok (.iload_n 2, 1) by decide +kernel) rfl))
    (ok_leaf (ok_iconst (show decode cX10_shown 80 = .ok (.iconst (-1), 1) by decide +kernel) (by decide +kernel)))))
    (ok_node
    (ok_leaf (ok_icmp_ne (show decode cX10_shown 81 = .ok (.if_icmp .ne 13, 3) by decide +kernel) (by decide +kernel)))
    (ok_node
    (ok_leaf (ok_aload_n (show decode cX10_shown 84 = .ok (.aload_n 0, 1) by decide +kernel) rfl))
    (ok_leaf (ok_getfield (show decode cX10_shown 85 = .ok (.getfield 68, 3) by decide +kernel) (Or.inr (fdF_X10 (by decide) wd_398 rfl rfl)))))))
    (ok_node
    (ok_node
    (ok_leaf (ok_callV (C := RX9) (T := TX9) (N := 4) (Mc := M_X9_length) (show decode cX10_shown 88 = .ok (.invokevirtual 140, 3) by decide +kernel) rfl (by decide) (by decide +kernel) rfl rfl wd_458 wd_459 wd_460 wd_341 wd_461 ⟨by decide +kernel, by decide +kernel, by decide +kernel⟩ (by decide)))
    (ok_node
    (ok_leaf (ok_goto (show decode cX10_shown 91 = .ok (.goto 11, 3) by decide +kernel) (by decide +kernel)))
    (ok_leaf (ok_aload_n (show decode cX10_shown 94 = .ok (.aload_n 0, 1) by decide +kernel) rfl))))
    (ok_node
    (ok_node
    (ok_leaf (ok_getfield (show decode cX10_shown 95 = .ok (.getfield 68, 3) by decide +kernel) (Or.inr (fdF_X10 (by decide) wd_398 rfl rfl))))
    (ok_leaf (ok_iload_n (show decode cX10_shown 98 = .ok (.iload_n 2, 1) by decide +kernel) rfl)))
    (ok_node
    (ok_leaf (ok_callV (C := RX9) (T := TX9) (N := 4) (Mc := M_X9_byteAt) (show decode cX10_shown 99 = .ok (.invokevirtual 141, 3) by decide +kernel) rfl (by decide) (by decide +kernel) rfl rfl wd_462 wd_463 wd_464 wd_341 wd_465 ⟨by decide +kernel, by decide +kernel, by decide +kernel⟩ (by decide)))
    (ok_leaf (ok_ireturn (show decode cX10_shown 102 = .ok (.ireturn, 1) by decide +kernel) rfl)))))))
set_option maxRecDepth 20000 in
set_option maxHeartbeats 4000000 in
theorem ok_X10_pairs {sc : List Int32} : ∀ pc, pOk mtOf 189 M_X10_pairs false sc pc (cd_X10_pairs pc) := by
  unfold cd_X10_pairs
  exact ok_node
    (ok_node
    (ok_node
    (ok_leaf (ok_iload_n (show decode cX10_pairs 0 = .ok (.iload_n 1, 1) by decide +kernel) rfl))
    (ok_node
    (ok_leaf (ok_if_lt (show decode cX10_pairs 1 = .ok (.ifCond .lt 8, 3) by decide +kernel) (by decide +kernel)))
    (ok_leaf (ok_iload_n (show decode cX10_pairs 4 = .ok (.iload_n 1, 1) by decide +kernel) rfl))))
    (ok_node
    (ok_node
    (ok_leaf (ok_iconst (show decode cX10_pairs 5 = .ok (.iconst 4, 1) by decide +kernel) (by decide +kernel)))
    (ok_leaf (ok_icmp_lt (show decode cX10_pairs 6 = .ok (.if_icmp .lt 10, 3) by decide +kernel) (by decide +kernel))))
    (ok_node
    (ok_leaf (ok_aload_n (show decode cX10_pairs 9 = .ok (.aload_n 0, 1) by decide +kernel) rfl))
    (ok_leaf (ok_bipush (show decode cX10_pairs 10 = .ok (.bipush (-2), 2) by decide +kernel) (by decide +kernel))))))
    (ok_node
    (ok_node
    (ok_leaf (ok_callV (C := RX10) (T := TX10) (N := 12) (Mc := M_X10_refuse) (show decode cX10_pairs 12 = .ok (.invokevirtual 72, 3) by decide +kernel) rfl (by decide) (by decide +kernel) rfl rfl wd_399 wd_400 wd_401 wd_65 wd_402 ⟨by decide +kernel, by decide +kernel, by decide +kernel⟩ (by decide)))
    (ok_node
    (ok_leaf (ok_ireturn (show decode cX10_pairs 15 = .ok (.ireturn, 1) by decide +kernel) rfl))
    (ok_leaf (ok_aload_n (show decode cX10_pairs 16 = .ok (.aload_n 0, 1) by decide +kernel) rfl))))
    (ok_node
    (ok_node
    (ok_leaf (ok_getfield (show decode cX10_pairs 17 = .ok (.getfield 38, 3) by decide +kernel) (Or.inr (fdF_X10 (by decide) wd_375 rfl rfl))))
    (ok_leaf (ok_iload_n (show decode cX10_pairs 20 = .ok (.iload_n 1, 1) by decide +kernel) rfl)))
    (ok_node
    (ok_leaf (ok_callV (C := RX6) (T := TX6) (N := 4) (Mc := M_X6_howMany) (show decode cX10_pairs 21 = .ok (.invokevirtual 144, 3) by decide +kernel) rfl (by decide) (by decide +kernel) rfl rfl wd_466 wd_221 wd_222 wd_174 wd_223 ⟨by decide +kernel, by decide +kernel, by decide +kernel⟩ (by decide)))
    (ok_leaf (ok_ireturn (show decode cX10_pairs 24 = .ok (.ireturn, 1) by decide +kernel) rfl)))))
set_option maxRecDepth 20000 in
set_option maxHeartbeats 4000000 in
theorem ok_X10_pair {sc : List Int32} : ∀ pc, pOk mtOf 189 M_X10_pair false sc pc (cd_X10_pair pc) := by
  unfold cd_X10_pair
  exact ok_node
    (ok_node
    (ok_node
    (ok_node
    (ok_node
    (ok_leaf (ok_iload_n (show decode cX10_pair 0 = .ok (.iload_n 1, 1) by decide +kernel) rfl))
    (ok_node
    (ok_leaf (ok_if_lt (show decode cX10_pair 1 = .ok (.ifCond .lt 13, 3) by decide +kernel) (by decide +kernel)))
    (ok_leaf (ok_iload_n (show decode cX10_pair 4 = .ok (.iload_n 2, 1) by decide +kernel) rfl))))
    (ok_node
    (ok_node
    (ok_leaf (ok_if_lt (show decode cX10_pair 5 = .ok (.ifCond .lt 9, 3) by decide +kernel) (by decide +kernel)))
    (ok_leaf (ok_iload_n (show decode cX10_pair 8 = .ok (.iload_n 2, 1) by decide +kernel) rfl)))
    (ok_node
    (ok_leaf (ok_bipush (show decode cX10_pair 9 = .ok (.bipush 6, 2) by decide +kernel) (by decide +kernel)))
    (ok_leaf (ok_icmp_lt (show decode cX10_pair 11 = .ok (.if_icmp .lt 10, 3) by decide +kernel) (by decide +kernel))))))
    (ok_node
    (ok_node
    (ok_node
    (ok_leaf (ok_aload_n (show decode cX10_pair 14 = .ok (.aload_n 0, 1) by decide +kernel) rfl))
    (ok_leaf (ok_bipush (show decode cX10_pair 15 = .ok (.bipush (-2), 2) by decide +kernel) (by decide +kernel))))
    (ok_node
    (ok_leaf (ok_callV (C := RX10) (T := TX10) (N := 12) (Mc := M_X10_refuse) (show decode cX10_pair 17 = .ok (.invokevirtual 72, 3) by decide +kernel) rfl (by decide) (by decide +kernel) rfl rfl wd_399 wd_400 wd_401 wd_65 wd_402 ⟨by decide +kernel, by decide +kernel, by decide +kernel⟩ (by decide)))
    (ok_leaf (ok_ireturn (show decode cX10_pair 20 = .ok (.ireturn, 1) by decide +kernel) rfl))))
    (ok_node
    (ok_node
    (ok_leaf (ok_iload_n (show decode cX10_pair 21 = .ok (.iload_n 1, 1) by decide +kernel) rfl))
    (ok_leaf (ok_aload_n (show decode cX10_pair 22 = .ok (.aload_n 0, 1) by decide +kernel) rfl)))
    (ok_node
    (ok_leaf (ok_getfield (show decode cX10_pair 23 = .ok (.getfield 38, 3) by decide +kernel) (Or.inr (fdF_X10 (by decide) wd_375 rfl rfl))))
    (ok_leaf (ok_callV (C := RX6) (T := TX6) (N := 4) (Mc := M_X6_count) (show decode cX10_pair 26 = .ok (.invokevirtual 147, 3) by decide +kernel) rfl (by decide) (by decide +kernel) rfl rfl wd_467 wd_246 wd_247 wd_174 wd_248 ⟨by decide +kernel, by decide +kernel, by decide +kernel⟩ (by decide)))))))
    (ok_node
    (ok_node
    (ok_node
    (ok_node
    (ok_leaf (ok_icmp_lt (show decode cX10_pair 29 = .ok (.if_icmp .lt 6, 3) by decide +kernel) (by decide +kernel)))
    (ok_leaf (ok_bipush (show decode cX10_pair 32 = .ok (.bipush (-5), 2) by decide +kernel) (by decide +kernel))))
    (ok_node
    (ok_leaf (ok_ireturn (show decode cX10_pair 34 = .ok (.ireturn, 1) by decide +kernel) rfl))
    (ok_leaf (ok_iload_n (show decode cX10_pair 35 = .ok (.iload_n 2, 1) by decide +kernel) rfl))))
    (ok_node
    (ok_node
    (ok_leaf (ok_table (show decode cX10_pair 36 = .ok (.tableswitch 109 0 4 #[36, 52, 68, 84, 100], 36) by decide +kernel) (by decide +kernel) (by decide +kernel) (by decide +kernel) (by decide +kernel)))
    (ok_leaf (ok_aload_n (show decode cX10_pair 72 = .ok (.aload_n 0, 1) by decide +kernel) rfl)))
    (ok_node
    (ok_leaf (ok_getfield (show decode cX10_pair 73 = .ok (.getfield 19, 3) by decide +kernel) (Or.inr (fdF_X10 (by decide) wd_361 rfl rfl))))
    (ok_leaf (ok_aload_n (show decode cX10_pair 76 = .ok (.aload_n 0, 1) by decide +kernel) rfl)))))
    (ok_node
    (ok_node
    (ok_node
    (ok_leaf (ok_getfield (show decode cX10_pair 77 = .ok (.getfield 38, 3) by decide +kernel) (Or.inr (fdF_X10 (by decide) wd_375 rfl rfl))))
    (ok_leaf (ok_iload_n (show decode cX10_pair 80 = .ok (.iload_n 1, 1) by decide +kernel) rfl)))
    (ok_node
    (ok_leaf (ok_callV (C := RX6) (T := TX6) (N := 4) (Mc := M_X6_left) (show decode cX10_pair 81 = .ok (.invokevirtual 148, 3) by decide +kernel) rfl (by decide) (by decide +kernel) rfl rfl wd_468 wd_172 wd_173 wd_174 wd_175 ⟨by decide +kernel, by decide +kernel, by decide +kernel⟩ (by decide)))
    (ok_leaf (ok_callV (C := RX2) (T := TX2) (N := 7) (Mc := M_X2_letterAt) (show decode cX10_pair 84 = .ok (.invokevirtual 151, 3) by decide +kernel) rfl (by decide) (by decide +kernel) rfl rfl wd_469 wd_68 wd_69 wd_58 wd_70 ⟨by decide +kernel, by decide +kernel, by decide +kernel⟩ (by decide)))))
    (ok_node
    (ok_node
    (ok_leaf (ok_ireturn (show decode cX10_pair 87 = .ok (.ireturn, 1) by decide +kernel) rfl))
    (ok_leaf (ok_aload_n (show decode cX10_pair 88 = .ok (.aload_n 0, 1) by decide +kernel) rfl)))
    (ok_node
    (ok_leaf (ok_getfield (show decode cX10_pair 89 = .ok (.getfield 19, 3) by decide +kernel) (Or.inr (fdF_X10 (by decide) wd_361 rfl rfl))))
    (ok_leaf (ok_aload_n (show decode cX10_pair 92 = .ok (.aload_n 0, 1) by decide +kernel) rfl)))))))
    (ok_node
    (ok_node
    (ok_node
    (ok_node
    (ok_leaf (ok_getfield (show decode cX10_pair 93 = .ok (.getfield 38, 3) by decide +kernel) (Or.inr (fdF_X10 (by decide) wd_375 rfl rfl))))
    (ok_node
    (ok_leaf (ok_iload_n (show decode cX10_pair 96 = .ok (.iload_n 1, 1) by decide +kernel) rfl))
    (ok_leaf (ok_callV (C := RX6) (T := TX6) (N := 4) (Mc := M_X6_right) (show decode cX10_pair 97 = .ok (.invokevirtual 154, 3) by decide +kernel) rfl (by decide) (by decide +kernel) rfl rfl wd_470 wd_179 wd_180 wd_174 wd_181 ⟨by decide +kernel, by decide +kernel, by decide +kernel⟩ (by decide)))))
    (ok_node
    (ok_node
    (ok_leaf (ok_callV (C := RX2) (T := TX2) (N := 7) (Mc := M_X2_letterAt) (show decode cX10_pair 100 = .ok (.invokevirtual 151, 3) by decide +kernel) rfl (by decide) (by decide +kernel) rfl rfl wd_469 wd_68 wd_69 wd_58 wd_70 ⟨by decide +kernel, by decide +kernel, by decide +kernel⟩ (by decide)))
    (ok_leaf (ok_ireturn (show decode cX10_pair 103 = .ok (.ireturn, 1) by decide +kernel) rfl)))
    (ok_node
    (ok_leaf (ok_aload_n (show decode cX10_pair 104 = .ok (.aload_n 0, 1) by decide +kernel) rfl))
    (ok_leaf (ok_getfield (show decode cX10_pair 105 = .ok (.getfield 19, 3) by decide +kernel) (Or.inr (fdF_X10 (by decide) wd_361 rfl rfl)))))))
    (ok_node
    (ok_node
    (ok_node
    (ok_leaf (ok_aload_n (show decode cX10_pair 108 = .ok (.aload_n 0, 1) by decide +kernel) rfl))
    (ok_leaf (ok_getfield (show decode cX10_pair 109 = .ok (.getfield 38, 3) by decide +kernel) (Or.inr (fdF_X10 (by decide) wd_375 rfl rfl)))))
    (ok_node
    (ok_leaf (ok_iload_n (show decode cX10_pair 112 = .ok (.iload_n 1, 1) by decide +kernel) rfl))
    (ok_leaf (ok_callV (C := RX6) (T := TX6) (N := 4) (Mc := M_X6_left) (show decode cX10_pair 113 = .ok (.invokevirtual 148, 3) by decide +kernel) rfl (by decide) (by decide +kernel) rfl rfl wd_468 wd_172 wd_173 wd_174 wd_175 ⟨by decide +kernel, by decide +kernel, by decide +kernel⟩ (by decide)))))
    (ok_node
    (ok_node
    (ok_leaf (ok_callV (C := RX2) (T := TX2) (N := 7) (Mc := M_X2_nodesAt) (show decode cX10_pair 116 = .ok (.invokevirtual 120, 3) by decide +kernel) rfl (by decide) (by decide +kernel) rfl rfl wd_443 wd_90 wd_91 wd_58 wd_92 ⟨by decide +kernel, by decide +kernel, by decide +kernel⟩ (by decide)))
    (ok_leaf (ok_ireturn (show decode cX10_pair 119 = .ok (.ireturn, 1) by decide +kernel) rfl)))
    (ok_node
    (ok_leaf (ok_aload_n (show decode cX10_pair 120 = .ok (.aload_n 0, 1) by decide +kernel) rfl))
    (ok_leaf (ok_getfield (show decode cX10_pair 121 = .ok (.getfield 19, 3) by decide +kernel) (Or.inr (fdF_X10 (by decide) wd_361 rfl rfl))))))))
    (ok_node
    (ok_node
    (ok_node
    (ok_node
    (ok_leaf (ok_aload_n (show decode cX10_pair 124 = .ok (.aload_n 0, 1) by decide +kernel) rfl))
    (ok_leaf (ok_getfield (show decode cX10_pair 125 = .ok (.getfield 38, 3) by decide +kernel) (Or.inr (fdF_X10 (by decide) wd_375 rfl rfl)))))
    (ok_node
    (ok_leaf (ok_iload_n (show decode cX10_pair 128 = .ok (.iload_n 1, 1) by decide +kernel) rfl))
    (ok_leaf (ok_callV (C := RX6) (T := TX6) (N := 4) (Mc := M_X6_right) (show decode cX10_pair 129 = .ok (.invokevirtual 154, 3) by decide +kernel) rfl (by decide) (by decide +kernel) rfl rfl wd_470 wd_179 wd_180 wd_174 wd_181 ⟨by decide +kernel, by decide +kernel, by decide +kernel⟩ (by decide)))))
    (ok_node
    (ok_node
    (ok_leaf (ok_callV (C := RX2) (T := TX2) (N := 7) (Mc := M_X2_nodesAt) (show decode cX10_pair 132 = .ok (.invokevirtual 120, 3) by decide +kernel) rfl (by decide) (by decide +kernel) rfl rfl wd_443 wd_90 wd_91 wd_58 wd_92 ⟨by decide +kernel, by decide +kernel, by decide +kernel⟩ (by decide)))
    (ok_leaf (ok_ireturn (show decode cX10_pair 135 = .ok (.ireturn, 1) by decide +kernel) rfl)))
    (ok_node
    (ok_leaf (ok_aload_n (show decode cX10_pair 136 = .ok (.aload_n 0, 1) by decide +kernel) rfl))
    (ok_leaf (ok_getfield (show decode cX10_pair 137 = .ok (.getfield 38, 3) by decide +kernel) (Or.inr (fdF_X10 (by decide) wd_375 rfl rfl)))))))
    (ok_node
    (ok_node
    (ok_node
    (ok_leaf (ok_iload_n (show decode cX10_pair 140 = .ok (.iload_n 1, 1) by decide +kernel) rfl))
    (ok_leaf (ok_callV (C := RX6) (T := TX6) (N := 4) (Mc := M_X6_kind) (show decode cX10_pair 141 = .ok (.invokevirtual 157, 3) by decide +kernel) rfl (by decide) (by decide +kernel) rfl rfl wd_471 wd_183 wd_184 wd_174 wd_185 ⟨by decide +kernel, by decide +kernel, by decide +kernel⟩ (by decide))))
    (ok_node
    (ok_leaf (ok_ireturn (show decode cX10_pair 144 = .ok (.ireturn, 1) by decide +kernel) rfl))
    (ok_leaf (ok_aload_n (show decode cX10_pair 145 = .ok (.aload_n 0, 1) by decide +kernel) rfl))))
    (ok_node
    (ok_node
    (ok_leaf (ok_getfield (show decode cX10_pair 146 = .ok (.getfield 38, 3) by decide +kernel) (Or.inr (fdF_X10 (by decide) wd_375 rfl rfl))))
    (ok_leaf (ok_iload_n (show decode cX10_pair 149 = .ok (.iload_n 1, 1) by decide +kernel) rfl)))
    (ok_node
    (ok_leaf (ok_callV (C := RX6) (T := TX6) (N := 4) (Mc := M_X6_ways) (show decode cX10_pair 150 = .ok (.invokevirtual 160, 3) by decide +kernel) rfl (by decide) (by decide +kernel) rfl rfl wd_472 wd_473 wd_474 wd_174 wd_475 ⟨by decide +kernel, by decide +kernel, by decide +kernel⟩ (by decide)))
    (ok_leaf (ok_ireturn (show decode cX10_pair 153 = .ok (.ireturn, 1) by decide +kernel) rfl)))))))
set_option maxRecDepth 20000 in
set_option maxHeartbeats 4000000 in
theorem ok_X10_solutions {sc : List Int32} : ∀ pc, pOk mtOf 189 M_X10_solutions false sc pc (cd_X10_solutions pc) := by
  unfold cd_X10_solutions
  exact ok_node
    (ok_node
    (ok_leaf (ok_aload_n (show decode cX10_solutions 0 = .ok (.aload_n 0, 1) by decide +kernel) rfl))
    (ok_leaf (ok_getfield (show decode cX10_solutions 1 = .ok (.getfield 61, 3) by decide +kernel) (Or.inr (fdF_X10 (by decide) wd_393 rfl rfl)))))
    (ok_node
    (ok_leaf (ok_callV (C := RX7) (T := TX7) (N := 10) (Mc := M_X7_found) (show decode cX10_solutions 4 = .ok (.invokevirtual 163, 3) by decide +kernel) rfl (by decide) (by decide +kernel) rfl rfl wd_476 wd_477 wd_478 wd_218 wd_479 ⟨by decide +kernel, by decide +kernel, by decide +kernel⟩ (by decide)))
    (ok_leaf (ok_ireturn (show decode cX10_solutions 7 = .ok (.ireturn, 1) by decide +kernel) rfl)))
