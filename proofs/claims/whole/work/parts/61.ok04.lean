set_option maxRecDepth 20000 in
set_option maxHeartbeats 4000000 in
theorem ok_X10_size {sc : List Int32} : ∀ pc, pOk mtOf 189 M_X10_size false sc pc (cd_X10_size pc) := by
  unfold cd_X10_size
  exact ok_node
    (ok_node
    (ok_node
    (ok_node
    (ok_leaf (ok_iload_n (show decode cX10_size 0 = .ok (.iload_n 1, 1) by decide +kernel) rfl))
    (ok_leaf (ok_if_ge (show decode cX10_size 1 = .ok (.ifCond .ge 10, 3) by decide +kernel) (by decide +kernel))))
    (ok_node
    (ok_leaf (ok_aload_n (show decode cX10_size 4 = .ok (.aload_n 0, 1) by decide +kernel) rfl))
    (ok_node
    (ok_leaf (ok_bipush (show decode cX10_size 5 = .ok (.bipush (-2), 2) by decide +kernel) (by decide +kernel)))
    (ok_leaf (ok_callV (C := RX10) (T := TX10) (N := 12) (Mc := M_X10_refuse) (show decode cX10_size 7 = .ok (.invokevirtual 72, 3) by decide +kernel) rfl (by decide) (by decide +kernel) rfl rfl wd_399 wd_400 wd_401 wd_65 wd_402 ⟨by decide +kernel, by decide +kernel, by decide +kernel⟩ (by decide))))))
    (ok_node
    (ok_node
    (ok_leaf (ok_ireturn (show decode cX10_size 10 = .ok (.ireturn, 1) by decide +kernel) rfl))
    (ok_leaf (ok_iload_n (show decode cX10_size 11 = .ok (.iload_n 1, 1) by decide +kernel) rfl)))
    (ok_node
    (ok_leaf (ok_aload_n (show decode cX10_size 12 = .ok (.aload_n 0, 1) by decide +kernel) rfl))
    (ok_node
    (ok_leaf (ok_getfield (show decode cX10_size 13 = .ok (.getfield 61, 3) by decide +kernel) (Or.inr (fdF_X10 (by decide) wd_393 rfl rfl))))
    (ok_leaf (ok_callV (C := RX7) (T := TX7) (N := 10) (Mc := M_X7_found) (show decode cX10_size 16 = .ok (.invokevirtual 163, 3) by decide +kernel) rfl (by decide) (by decide +kernel) rfl rfl wd_476 wd_477 wd_478 wd_218 wd_479 ⟨by decide +kernel, by decide +kernel, by decide +kernel⟩ (by decide)))))))
    (ok_node
    (ok_node
    (ok_node
    (ok_leaf (ok_icmp_lt (show decode cX10_size 19 = .ok (.if_icmp .lt 10, 3) by decide +kernel) (by decide +kernel)))
    (ok_leaf (ok_aload_n (show decode cX10_size 22 = .ok (.aload_n 0, 1) by decide +kernel) rfl)))
    (ok_node
    (ok_leaf (ok_bipush (show decode cX10_size 23 = .ok (.bipush (-3), 2) by decide +kernel) (by decide +kernel)))
    (ok_node
    (ok_leaf (ok_callV (C := RX10) (T := TX10) (N := 12) (Mc := M_X10_refuse) (show decode cX10_size 25 = .ok (.invokevirtual 72, 3) by decide +kernel) rfl (by decide) (by decide +kernel) rfl rfl wd_399 wd_400 wd_401 wd_65 wd_402 ⟨by decide +kernel, by decide +kernel, by decide +kernel⟩ (by decide)))
    (ok_leaf (ok_ireturn (show decode cX10_size 28 = .ok (.ireturn, 1) by decide +kernel) rfl)))))
    (ok_node
    (ok_node
    (ok_leaf (ok_aload_n (show decode cX10_size 29 = .ok (.aload_n 0, 1) by decide +kernel) rfl))
    (ok_leaf (ok_getfield (show decode cX10_size 30 = .ok (.getfield 61, 3) by decide +kernel) (Or.inr (fdF_X10 (by decide) wd_393 rfl rfl)))))
    (ok_node
    (ok_leaf (ok_iload_n (show decode cX10_size 33 = .ok (.iload_n 1, 1) by decide +kernel) rfl))
    (ok_node
    (ok_leaf (ok_callV (C := RX7) (T := TX7) (N := 10) (Mc := M_X7_sizeOf) (show decode cX10_size 34 = .ok (.invokevirtual 166, 3) by decide +kernel) rfl (by decide) (by decide +kernel) rfl rfl wd_480 wd_481 wd_482 wd_218 wd_483 ⟨by decide +kernel, by decide +kernel, by decide +kernel⟩ (by decide)))
    (ok_leaf (ok_ireturn (show decode cX10_size 37 = .ok (.ireturn, 1) by decide +kernel) rfl))))))
set_option maxRecDepth 20000 in
set_option maxHeartbeats 4000000 in
theorem ok_X10_body {sc : List Int32} : ∀ pc, pOk mtOf 189 M_X10_body false sc pc (cd_X10_body pc) := by
  unfold cd_X10_body
  exact ok_node
    (ok_node
    (ok_node
    (ok_node
    (ok_node
    (ok_leaf (ok_iload_n (show decode cX10_body 0 = .ok (.iload_n 1, 1) by decide +kernel) rfl))
    (ok_node
    (ok_leaf (ok_if_lt (show decode cX10_body 1 = .ok (.ifCond .lt 18, 3) by decide +kernel) (by decide +kernel)))
    (ok_leaf (ok_iload_n (show decode cX10_body 4 = .ok (.iload_n 2, 1) by decide +kernel) rfl))))
    (ok_node
    (ok_leaf (ok_if_lt (show decode cX10_body 5 = .ok (.ifCond .lt 14, 3) by decide +kernel) (by decide +kernel)))
    (ok_node
    (ok_leaf (ok_iload_n (show decode cX10_body 8 = .ok (.iload_n 2, 1) by decide +kernel) rfl))
    (ok_leaf (ok_bipush (show decode cX10_body 9 = .ok (.bipush 6, 2) by decide +kernel) (by decide +kernel))))))
    (ok_node
    (ok_node
    (ok_leaf (ok_icmp_ge (show decode cX10_body 11 = .ok (.if_icmp .ge 8, 3) by decide +kernel) (by decide +kernel)))
    (ok_node
    (ok_leaf (ok_iload_n (show decode cX10_body 14 = .ok (.iload_n 3, 1) by decide +kernel) rfl))
    (ok_leaf (ok_iconst (show decode cX10_body 15 = .ok (.iconst (-1), 1) by decide +kernel) (by decide +kernel)))))
    (ok_node
    (ok_leaf (ok_icmp_ge (show decode cX10_body 16 = .ok (.if_icmp .ge 10, 3) by decide +kernel) (by decide +kernel)))
    (ok_node
    (ok_leaf (ok_aload_n (show decode cX10_body 19 = .ok (.aload_n 0, 1) by decide +kernel) rfl))
    (ok_leaf (ok_bipush (show decode cX10_body 20 = .ok (.bipush (-2), 2) by decide +kernel) (by decide +kernel)))))))
    (ok_node
    (ok_node
    (ok_node
    (ok_leaf (ok_callV (C := RX10) (T := TX10) (N := 12) (Mc := M_X10_refuse) (show decode cX10_body 22 = .ok (.invokevirtual 72, 3) by decide +kernel) rfl (by decide) (by decide +kernel) rfl rfl wd_399 wd_400 wd_401 wd_65 wd_402 ⟨by decide +kernel, by decide +kernel, by decide +kernel⟩ (by decide)))
    (ok_node
    (ok_leaf (ok_ireturn (show decode cX10_body 25 = .ok (.ireturn, 1) by decide +kernel) rfl))
    (ok_leaf (ok_iload_n (show decode cX10_body 26 = .ok (.iload_n 1, 1) by decide +kernel) rfl))))
    (ok_node
    (ok_leaf (ok_aload_n (show decode cX10_body 27 = .ok (.aload_n 0, 1) by decide +kernel) rfl))
    (ok_node
    (ok_leaf (ok_getfield (show decode cX10_body 28 = .ok (.getfield 61, 3) by decide +kernel) (Or.inr (fdF_X10 (by decide) wd_393 rfl rfl))))
    (ok_leaf (ok_callV (C := RX7) (T := TX7) (N := 10) (Mc := M_X7_found) (show decode cX10_body 31 = .ok (.invokevirtual 163, 3) by decide +kernel) rfl (by decide) (by decide +kernel) rfl rfl wd_476 wd_477 wd_478 wd_218 wd_479 ⟨by decide +kernel, by decide +kernel, by decide +kernel⟩ (by decide))))))
    (ok_node
    (ok_node
    (ok_leaf (ok_icmp_lt (show decode cX10_body 34 = .ok (.if_icmp .lt 10, 3) by decide +kernel) (by decide +kernel)))
    (ok_node
    (ok_leaf (ok_aload_n (show decode cX10_body 37 = .ok (.aload_n 0, 1) by decide +kernel) rfl))
    (ok_leaf (ok_bipush (show decode cX10_body 38 = .ok (.bipush (-3), 2) by decide +kernel) (by decide +kernel)))))
    (ok_node
    (ok_node
    (ok_leaf (ok_callV (C := RX10) (T := TX10) (N := 12) (Mc := M_X10_refuse) (show decode cX10_body 40 = .ok (.invokevirtual 72, 3) by decide +kernel) rfl (by decide) (by decide +kernel) rfl rfl wd_399 wd_400 wd_401 wd_65 wd_402 ⟨by decide +kernel, by decide +kernel, by decide +kernel⟩ (by decide)))
    (ok_leaf (ok_ireturn (show decode cX10_body 43 = .ok (.ireturn, 1) by decide +kernel) rfl)))
    (ok_node
    (ok_leaf (ok_aload_n (show decode cX10_body 44 = .ok (.aload_n 0, 1) by decide +kernel) rfl))
    (ok_leaf (ok_getfield (show decode cX10_body 45 = .ok (.getfield 61, 3) by decide +kernel) (Or.inr (fdF_X10 (by decide) wd_393 rfl rfl)))))))))
    (ok_node
    (ok_node
    (ok_node
    (ok_node
    (ok_leaf (ok_iload_n (show decode cX10_body 48 = .ok (.iload_n 1, 1) by decide +kernel) rfl))
    (ok_node
    (ok_leaf (ok_iload_n (show decode cX10_body 49 = .ok (.iload_n 2, 1) by decide +kernel) rfl))
    (ok_leaf (ok_callV (C := RX7) (T := TX7) (N := 10) (Mc := M_X7_wordOf) (show decode cX10_body 50 = .ok (.invokevirtual 171, 3) by decide +kernel) rfl (by decide) (by decide +kernel) rfl rfl wd_484 wd_230 wd_231 wd_218 wd_232 ⟨by decide +kernel, by decide +kernel, by decide +kernel⟩ (by decide)))))
    (ok_node
    (ok_leaf (ok_istore (show decode cX10_body 53 = .ok (.istore 4, 2) by decide +kernel)))
    (ok_node
    (ok_leaf (ok_iload (show decode cX10_body 55 = .ok (.iload 4, 2) by decide +kernel)))
    (ok_leaf (ok_if_ne (show decode cX10_body 57 = .ok (.ifCond .ne 6, 3) by decide +kernel) (by decide +kernel))))))
    (ok_node
    (ok_node
    (ok_leaf (ok_bipush (show decode cX10_body 60 = .ok (.bipush (-5), 2) by decide +kernel) (by decide +kernel)))
    (ok_node
    (ok_leaf (ok_ireturn (show decode cX10_body 62 = .ok (.ireturn, 1) by decide +kernel) rfl))
    (ok_leaf (ok_iload_n (show decode cX10_body 63 = .ok (.iload_n 3, 1) by decide +kernel) rfl))))
    (ok_node
    (ok_node
    (ok_leaf (ok_iconst (show decode cX10_body 64 = .ok (.iconst (-1), 1) by decide +kernel) (by decide +kernel)))
    (ok_leaf (ok_icmp_ne (show decode cX10_body 65 = .ok (.if_icmp .ne 9, 3) by decide +kernel) (by decide +kernel))))
    (ok_node
    (ok_leaf (ok_iload (show decode cX10_body 68 = .ok (.iload 4, 2) by decide +kernel)))
    (ok_leaf (ok_callS (Mc := M_X0_lettersIn) (show decode cX10_body 70 = .ok (.invokestatic 174, 3) by decide +kernel) rfl (by decide) (by decide +kernel) wd_485 wd_234 wd_10 wd_235 ⟨by decide +kernel, by decide +kernel, by decide +kernel⟩ (by decide)))))))
    (ok_node
    (ok_node
    (ok_node
    (ok_leaf (ok_ireturn (show decode cX10_body 73 = .ok (.ireturn, 1) by decide +kernel) rfl))
    (ok_node
    (ok_leaf (ok_aload_n (show decode cX10_body 74 = .ok (.aload_n 0, 1) by decide +kernel) rfl))
    (ok_leaf (ok_getfield (show decode cX10_body 75 = .ok (.getfield 68, 3) by decide +kernel) (Or.inr (fdF_X10 (by decide) wd_398 rfl rfl))))))
    (ok_node
    (ok_leaf (ok_callV (C := RX9) (T := TX9) (N := 4) (Mc := M_X9_begin) (show decode cX10_body 78 = .ok (.invokevirtual 130, 3) by decide +kernel) rfl (by decide) (by decide +kernel) rfl rfl wd_449 wd_450 wd_451 wd_341 wd_452 ⟨by decide +kernel, by decide +kernel, by decide +kernel⟩ (by decide)))
    (ok_node
    (ok_leaf (ok_aload_n (show decode cX10_body 81 = .ok (.aload_n 0, 1) by decide +kernel) rfl))
    (ok_leaf (ok_getfield (show decode cX10_body 82 = .ok (.getfield 68, 3) by decide +kernel) (Or.inr (fdF_X10 (by decide) wd_398 rfl rfl)))))))
    (ok_node
    (ok_node
    (ok_leaf (ok_iload (show decode cX10_body 85 = .ok (.iload 4, 2) by decide +kernel)))
    (ok_node
    (ok_leaf (ok_callV (C := RX9) (T := TX9) (N := 4) (Mc := M_X9_putBody) (show decode cX10_body 87 = .ok (.invokevirtual 177, 3) by decide +kernel) rfl (by decide) (by decide +kernel) rfl rfl wd_486 wd_487 wd_488 wd_341 wd_489 ⟨by decide +kernel, by decide +kernel, by decide +kernel⟩ (by decide)))
    (ok_leaf (ok_aload_n (show decode cX10_body 90 = .ok (.aload_n 0, 1) by decide +kernel) rfl))))
    (ok_node
    (ok_node
    (ok_leaf (ok_getfield (show decode cX10_body 91 = .ok (.getfield 68, 3) by decide +kernel) (Or.inr (fdF_X10 (by decide) wd_398 rfl rfl))))
    (ok_leaf (ok_iload_n (show decode cX10_body 94 = .ok (.iload_n 3, 1) by decide +kernel) rfl)))
    (ok_node
    (ok_leaf (ok_callV (C := RX9) (T := TX9) (N := 4) (Mc := M_X9_byteAt) (show decode cX10_body 95 = .ok (.invokevirtual 141, 3) by decide +kernel) rfl (by decide) (by decide +kernel) rfl rfl wd_462 wd_463 wd_464 wd_341 wd_465 ⟨by decide +kernel, by decide +kernel, by decide +kernel⟩ (by decide)))
    (ok_leaf (ok_ireturn (show decode cX10_body 98 = .ok (.ireturn, 1) by decide +kernel) rfl)))))))
set_option maxRecDepth 20000 in
set_option maxHeartbeats 4000000 in
theorem ok_X10_becomes {sc : List Int32} : ∀ pc, pOk mtOf 189 M_X10_becomes false sc pc (cd_X10_becomes pc) := by
  unfold cd_X10_becomes
  exact ok_node
    (ok_node
    (ok_node
    (ok_node
    (ok_node
    (ok_leaf (ok_iload_n (show decode cX10_becomes 0 = .ok (.iload_n 1, 1) by decide +kernel) rfl))
    (ok_node
    (ok_leaf (ok_if_lt (show decode cX10_becomes 1 = .ok (.ifCond .lt 27, 3) by decide +kernel) (by decide +kernel)))
    (ok_leaf (ok_aload_n (show decode cX10_becomes 4 = .ok (.aload_n 0, 1) by decide +kernel) rfl))))
    (ok_node
    (ok_node
    (ok_leaf (ok_getfield (show decode cX10_becomes 5 = .ok (.getfield 19, 3) by decide +kernel) (Or.inr (fdF_X10 (by decide) wd_361 rfl rfl))))
    (ok_leaf (ok_iload_n (show decode cX10_becomes 8 = .ok (.iload_n 2, 1) by decide +kernel) rfl)))
    (ok_node
    (ok_leaf (ok_callV (C := RX2) (T := TX2) (N := 7) (Mc := M_X2_has) (show decode cX10_becomes 9 = .ok (.invokevirtual 106, 3) by decide +kernel) rfl (by decide) (by decide +kernel) rfl rfl wd_433 wd_61 wd_62 wd_58 wd_63 ⟨by decide +kernel, by decide +kernel, by decide +kernel⟩ (by decide)))
    (ok_leaf (ok_if_eq (show decode cX10_becomes 12 = .ok (.ifCond .eq 16, 3) by decide +kernel) (by decide +kernel))))))
    (ok_node
    (ok_node
    (ok_node
    (ok_leaf (ok_iload_n (show decode cX10_becomes 15 = .ok (.iload_n 3, 1) by decide +kernel) rfl))
    (ok_leaf (ok_callS (Mc := M_X10_isSide) (show decode cX10_becomes 16 = .ok (.invokestatic 123, 3) by decide +kernel) rfl (by decide) (by decide +kernel) wd_444 wd_64 wd_65 wd_66 ⟨by decide +kernel, by decide +kernel, by decide +kernel⟩ (by decide))))
    (ok_node
    (ok_leaf (ok_if_eq (show decode cX10_becomes 19 = .ok (.ifCond .eq 9, 3) by decide +kernel) (by decide +kernel)))
    (ok_leaf (ok_iload (show decode cX10_becomes 22 = .ok (.iload 4, 2) by decide +kernel)))))
    (ok_node
    (ok_node
    (ok_leaf (ok_iconst (show decode cX10_becomes 24 = .ok (.iconst (-1), 1) by decide +kernel) (by decide +kernel)))
    (ok_leaf (ok_icmp_ge (show decode cX10_becomes 25 = .ok (.if_icmp .ge 10, 3) by decide +kernel) (by decide +kernel))))
    (ok_node
    (ok_leaf (ok_aload_n (show decode cX10_becomes 28 = .ok (.aload_n 0, 1) by decide +kernel) rfl))
    (ok_leaf (ok_bipush (show decode cX10_becomes 29 = .ok (.bipush (-2), 2) by decide +kernel) (by decide +kernel)))))))
    (ok_node
    (ok_node
    (ok_node
    (ok_node
    (ok_leaf (ok_callV (C := RX10) (T := TX10) (N := 12) (Mc := M_X10_refuse) (show decode cX10_becomes 31 = .ok (.invokevirtual 72, 3) by decide +kernel) rfl (by decide) (by decide +kernel) rfl rfl wd_399 wd_400 wd_401 wd_65 wd_402 ⟨by decide +kernel, by decide +kernel, by decide +kernel⟩ (by decide)))
    (ok_leaf (ok_ireturn (show decode cX10_becomes 34 = .ok (.ireturn, 1) by decide +kernel) rfl)))
    (ok_node
    (ok_leaf (ok_iload_n (show decode cX10_becomes 35 = .ok (.iload_n 1, 1) by decide +kernel) rfl))
    (ok_leaf (ok_aload_n (show decode cX10_becomes 36 = .ok (.aload_n 0, 1) by decide +kernel) rfl))))
    (ok_node
    (ok_node
    (ok_leaf (ok_getfield (show decode cX10_becomes 37 = .ok (.getfield 61, 3) by decide +kernel) (Or.inr (fdF_X10 (by decide) wd_393 rfl rfl))))
    (ok_leaf (ok_callV (C := RX7) (T := TX7) (N := 10) (Mc := M_X7_found) (show decode cX10_becomes 40 = .ok (.invokevirtual 163, 3) by decide +kernel) rfl (by decide) (by decide +kernel) rfl rfl wd_476 wd_477 wd_478 wd_218 wd_479 ⟨by decide +kernel, by decide +kernel, by decide +kernel⟩ (by decide))))
    (ok_node
    (ok_leaf (ok_icmp_lt (show decode cX10_becomes 43 = .ok (.if_icmp .lt 10, 3) by decide +kernel) (by decide +kernel)))
    (ok_leaf (ok_aload_n (show decode cX10_becomes 46 = .ok (.aload_n 0, 1) by decide +kernel) rfl)))))
    (ok_node
    (ok_node
    (ok_node
    (ok_leaf (ok_bipush (show decode cX10_becomes 47 = .ok (.bipush (-3), 2) by decide +kernel) (by decide +kernel)))
    (ok_leaf (ok_callV (C := RX10) (T := TX10) (N := 12) (Mc := M_X10_refuse) (show decode cX10_becomes 49 = .ok (.invokevirtual 72, 3) by decide +kernel) rfl (by decide) (by decide +kernel) rfl rfl wd_399 wd_400 wd_401 wd_65 wd_402 ⟨by decide +kernel, by decide +kernel, by decide +kernel⟩ (by decide))))
    (ok_node
    (ok_leaf (ok_ireturn (show decode cX10_becomes 52 = .ok (.ireturn, 1) by decide +kernel) rfl))
    (ok_leaf (ok_aload_n (show decode cX10_becomes 53 = .ok (.aload_n 0, 1) by decide +kernel) rfl))))
    (ok_node
    (ok_node
    (ok_leaf (ok_getfield (show decode cX10_becomes 54 = .ok (.getfield 61, 3) by decide +kernel) (Or.inr (fdF_X10 (by decide) wd_393 rfl rfl))))
    (ok_leaf (ok_iload_n (show decode cX10_becomes 57 = .ok (.iload_n 1, 1) by decide +kernel) rfl)))
    (ok_node
    (ok_leaf (ok_callV (C := RX7) (T := TX7) (N := 10) (Mc := M_X7_take) (show decode cX10_becomes 58 = .ok (.invokevirtual 180, 3) by decide +kernel) rfl (by decide) (by decide +kernel) rfl rfl wd_490 wd_491 wd_492 wd_218 wd_493 ⟨by decide +kernel, by decide +kernel, by decide +kernel⟩ (by decide)))
    (ok_leaf (ok_aload_n (show decode cX10_becomes 61 = .ok (.aload_n 0, 1) by decide +kernel) rfl)))))))
    (ok_node
    (ok_node
    (ok_node
    (ok_node
    (ok_leaf (ok_getfield (show decode cX10_becomes 62 = .ok (.getfield 19, 3) by decide +kernel) (Or.inr (fdF_X10 (by decide) wd_361 rfl rfl))))
    (ok_node
    (ok_leaf (ok_iload_n (show decode cX10_becomes 65 = .ok (.iload_n 2, 1) by decide +kernel) rfl))
    (ok_leaf (ok_iload_n (show decode cX10_becomes 66 = .ok (.iload_n 3, 1) by decide +kernel) rfl))))
    (ok_node
    (ok_node
    (ok_leaf (ok_callV (C := RX2) (T := TX2) (N := 7) (Mc := M_X2_start) (show decode cX10_becomes 67 = .ok (.invokevirtual 116, 3) by decide +kernel) rfl (by decide) (by decide +kernel) rfl rfl wd_442 wd_194 wd_195 wd_58 wd_196 ⟨by decide +kernel, by decide +kernel, by decide +kernel⟩ (by decide)))
    (ok_leaf (ok_istore (show decode cX10_becomes 70 = .ok (.istore 5, 2) by decide +kernel))))
    (ok_node
    (ok_leaf (ok_aload_n (show decode cX10_becomes 72 = .ok (.aload_n 0, 1) by decide +kernel) rfl))
    (ok_leaf (ok_getfield (show decode cX10_becomes 73 = .ok (.getfield 52, 3) by decide +kernel) (Or.inr (fdF_X10 (by decide) wd_387 rfl rfl)))))))
    (ok_node
    (ok_node
    (ok_node
    (ok_leaf (ok_iload (show decode cX10_becomes 76 = .ok (.iload 5, 2) by decide +kernel)))
    (ok_leaf (ok_callV (C := RX3) (T := TX3) (N := 8) (Mc := M_X3_grow) (show decode cX10_becomes 78 = .ok (.invokevirtual 183, 3) by decide +kernel) rfl (by decide) (by decide +kernel) rfl rfl wd_494 wd_495 wd_496 wd_127 wd_497 ⟨by decide +kernel, by decide +kernel, by decide +kernel⟩ (by decide))))
    (ok_node
    (ok_leaf (ok_iload (show decode cX10_becomes 81 = .ok (.iload 4, 2) by decide +kernel)))
    (ok_leaf (ok_iconst (show decode cX10_becomes 83 = .ok (.iconst (-1), 1) by decide +kernel) (by decide +kernel)))))
    (ok_node
    (ok_node
    (ok_leaf (ok_icmp_ne (show decode cX10_becomes 84 = .ok (.if_icmp .ne 13, 3) by decide +kernel) (by decide +kernel)))
    (ok_leaf (ok_aload_n (show decode cX10_becomes 87 = .ok (.aload_n 0, 1) by decide +kernel) rfl)))
    (ok_node
    (ok_leaf (ok_getfield (show decode cX10_becomes 88 = .ok (.getfield 52, 3) by decide +kernel) (Or.inr (fdF_X10 (by decide) wd_387 rfl rfl))))
    (ok_leaf (ok_iload (show decode cX10_becomes 91 = .ok (.iload 5, 2) by decide +kernel)))))))
    (ok_node
    (ok_node
    (ok_node
    (ok_node
    (ok_leaf (ok_callV (C := RX3) (T := TX3) (N := 8) (Mc := M_X3_sizeAt) (show decode cX10_becomes 93 = .ok (.invokevirtual 186, 3) by decide +kernel) rfl (by decide) (by decide +kernel) rfl rfl wd_498 wd_130 wd_131 wd_127 wd_132 ⟨by decide +kernel, by decide +kernel, by decide +kernel⟩ (by decide)))
    (ok_leaf (ok_ireturn (show decode cX10_becomes 96 = .ok (.ireturn, 1) by decide +kernel) rfl)))
    (ok_node
    (ok_leaf (ok_iload (show decode cX10_becomes 97 = .ok (.iload 4, 2) by decide +kernel)))
    (ok_leaf (ok_aload_n (show decode cX10_becomes 99 = .ok (.aload_n 0, 1) by decide +kernel) rfl))))
    (ok_node
    (ok_node
    (ok_leaf (ok_getfield (show decode cX10_becomes 100 = .ok (.getfield 52, 3) by decide +kernel) (Or.inr (fdF_X10 (by decide) wd_387 rfl rfl))))
    (ok_leaf (ok_iload (show decode cX10_becomes 103 = .ok (.iload 5, 2) by decide +kernel))))
    (ok_node
    (ok_leaf (ok_callV (C := RX3) (T := TX3) (N := 8) (Mc := M_X3_sizeAt) (show decode cX10_becomes 105 = .ok (.invokevirtual 186, 3) by decide +kernel) rfl (by decide) (by decide +kernel) rfl rfl wd_498 wd_130 wd_131 wd_127 wd_132 ⟨by decide +kernel, by decide +kernel, by decide +kernel⟩ (by decide)))
    (ok_leaf (ok_icmp_ge (show decode cX10_becomes 108 = .ok (.if_icmp .ge 17, 3) by decide +kernel) (by decide +kernel))))))
    (ok_node
    (ok_node
    (ok_node
    (ok_leaf (ok_aload_n (show decode cX10_becomes 111 = .ok (.aload_n 0, 1) by decide +kernel) rfl))
    (ok_leaf (ok_getfield (show decode cX10_becomes 112 = .ok (.getfield 52, 3) by decide +kernel) (Or.inr (fdF_X10 (by decide) wd_387 rfl rfl)))))
    (ok_node
    (ok_leaf (ok_iload (show decode cX10_becomes 115 = .ok (.iload 5, 2) by decide +kernel)))
    (ok_leaf (ok_iload (show decode cX10_becomes 117 = .ok (.iload 4, 2) by decide +kernel)))))
    (ok_node
    (ok_node
    (ok_leaf (ok_callV (C := RX3) (T := TX3) (N := 8) (Mc := M_X3_letterOf) (show decode cX10_becomes 119 = .ok (.invokevirtual 189, 3) by decide +kernel) rfl (by decide) (by decide +kernel) rfl rfl wd_499 wd_139 wd_140 wd_127 wd_141 ⟨by decide +kernel, by decide +kernel, by decide +kernel⟩ (by decide)))
    (ok_leaf (ok_goto (show decode cX10_becomes 122 = .ok (.goto 5, 3) by decide +kernel) (by decide +kernel))))
    (ok_node
    (ok_leaf (ok_bipush (show decode cX10_becomes 125 = .ok (.bipush (-5), 2) by decide +kernel) (by decide +kernel)))
    (ok_leaf (ok_ireturn (show decode cX10_becomes 127 = .ok (.ireturn, 1) by decide +kernel) rfl)))))))
set_option maxRecDepth 20000 in
set_option maxHeartbeats 4000000 in
theorem ok_X10_bodies {sc : List Int32} : ∀ pc, pOk mtOf 189 M_X10_bodies false sc pc (cd_X10_bodies pc) := by
  unfold cd_X10_bodies
  exact ok_node
    (ok_node
    (ok_node
    (ok_node
    (ok_node
    (ok_leaf (ok_iload_n (show decode cX10_bodies 0 = .ok (.iload_n 1, 1) by decide +kernel) rfl))
    (ok_leaf (ok_if_lt (show decode cX10_bodies 1 = .ok (.ifCond .lt 20, 3) by decide +kernel) (by decide +kernel))))
    (ok_node
    (ok_leaf (ok_iload_n (show decode cX10_bodies 4 = .ok (.iload_n 1, 1) by decide +kernel) rfl))
    (ok_leaf (ok_bipush (show decode cX10_bodies 5 = .ok (.bipush 6, 2) by decide +kernel) (by decide +kernel)))))
    (ok_node
    (ok_node
    (ok_leaf (ok_icmp_ge (show decode cX10_bodies 7 = .ok (.if_icmp .ge 14, 3) by decide +kernel) (by decide +kernel)))
    (ok_leaf (ok_iload_n (show decode cX10_bodies 10 = .ok (.iload_n 2, 1) by decide +kernel) rfl)))
    (ok_node
    (ok_leaf (ok_iconst (show decode cX10_bodies 11 = .ok (.iconst 1, 1) by decide +kernel) (by decide +kernel)))
    (ok_leaf (ok_icmp_lt (show decode cX10_bodies 12 = .ok (.if_icmp .lt 9, 3) by decide +kernel) (by decide +kernel))))))
    (ok_node
    (ok_node
    (ok_node
    (ok_leaf (ok_iload_n (show decode cX10_bodies 15 = .ok (.iload_n 2, 1) by decide +kernel) rfl))
    (ok_leaf (ok_bipush (show decode cX10_bodies 16 = .ok (.bipush 6, 2) by decide +kernel) (by decide +kernel))))
    (ok_node
    (ok_leaf (ok_icmp_le (show decode cX10_bodies 18 = .ok (.if_icmp .le 10, 3) by decide +kernel) (by decide +kernel)))
    (ok_leaf (ok_aload_n (show decode cX10_bodies 21 = .ok (.aload_n 0, 1) by decide +kernel) rfl))))
    (ok_node
    (ok_node
    (ok_leaf (ok_bipush (show decode cX10_bodies 22 = .ok (.bipush (-2), 2) by decide +kernel) (by decide +kernel)))
    (ok_leaf (ok_callV (C := RX10) (T := TX10) (N := 12) (Mc := M_X10_refuse) (show decode cX10_bodies 24 = .ok (.invokevirtual 72, 3) by decide +kernel) rfl (by decide) (by decide +kernel) rfl rfl wd_399 wd_400 wd_401 wd_65 wd_402 ⟨by decide +kernel, by decide +kernel, by decide +kernel⟩ (by decide))))
    (ok_node
    (ok_leaf (ok_ireturn (show decode cX10_bodies 27 = .ok (.ireturn, 1) by decide +kernel) rfl))
    (ok_leaf (ok_bipush (show decode cX10_bodies 28 = .ok (.bipush 85, 2) by decide +kernel) (by decide +kernel)))))))
    (ok_node
    (ok_node
    (ok_node
    (ok_node
    (ok_leaf (ok_iload_n (show decode cX10_bodies 30 = .ok (.iload_n 1, 1) by decide +kernel) rfl))
    (ok_leaf (ok_iadd (show decode cX10_bodies 31 = .ok (.iadd, 1) by decide +kernel))))
    (ok_node
    (ok_leaf (ok_callS (Mc := M_X5_parts) (show decode cX10_bodies 32 = .ok (.invokestatic 192, 3) by decide +kernel) rfl (by decide) (by decide +kernel) wd_500 wd_27 wd_28 wd_29 ⟨by decide +kernel, by decide +kernel, by decide +kernel⟩ (by decide)))
    (ok_leaf (ok_istore_n (show decode cX10_bodies 35 = .ok (.istore_n 3, 1) by decide +kernel) rfl))))
    (ok_node
    (ok_node
    (ok_leaf (ok_aload_n (show decode cX10_bodies 36 = .ok (.aload_n 0, 1) by decide +kernel) rfl))
    (ok_leaf (ok_getfield (show decode cX10_bodies 37 = .ok (.getfield 45, 3) by decide +kernel) (Or.inr (fdF_X10 (by decide) wd_381 rfl rfl)))))
    (ok_node
    (ok_leaf (ok_iload_n (show decode cX10_bodies 40 = .ok (.iload_n 3, 1) by decide +kernel) rfl))
    (ok_leaf (ok_iload_n (show decode cX10_bodies 41 = .ok (.iload_n 2, 1) by decide +kernel) rfl)))))
    (ok_node
    (ok_node
    (ok_node
    (ok_leaf (ok_callV (C := RX0) (T := TX0) (N := 3) (Mc := M_X0_end) (show decode cX10_bodies 42 = .ok (.invokevirtual 195, 3) by decide +kernel) rfl (by decide) (by decide +kernel) rfl rfl wd_501 wd_259 wd_260 wd_10 wd_261 ⟨by decide +kernel, by decide +kernel, by decide +kernel⟩ (by decide)))
    (ok_leaf (ok_aload_n (show decode cX10_bodies 45 = .ok (.aload_n 0, 1) by decide +kernel) rfl)))
    (ok_node
    (ok_leaf (ok_getfield (show decode cX10_bodies 46 = .ok (.getfield 45, 3) by decide +kernel) (Or.inr (fdF_X10 (by decide) wd_381 rfl rfl))))
    (ok_leaf (ok_iload_n (show decode cX10_bodies 49 = .ok (.iload_n 3, 1) by decide +kernel) rfl))))
    (ok_node
    (ok_node
    (ok_leaf (ok_iload_n (show decode cX10_bodies 50 = .ok (.iload_n 2, 1) by decide +kernel) rfl))
    (ok_leaf (ok_callV (C := RX0) (T := TX0) (N := 3) (Mc := M_X0_first) (show decode cX10_bodies 51 = .ok (.invokevirtual 198, 3) by decide +kernel) rfl (by decide) (by decide +kernel) rfl rfl wd_502 wd_263 wd_264 wd_10 wd_265 ⟨by decide +kernel, by decide +kernel, by decide +kernel⟩ (by decide))))
    (ok_node
    (ok_leaf (ok_isub (show decode cX10_bodies 54 = .ok (.isub, 1) by decide +kernel)))
    (ok_leaf (ok_ireturn (show decode cX10_bodies 55 = .ok (.ireturn, 1) by decide +kernel) rfl))))))
set_option maxRecDepth 20000 in
set_option maxHeartbeats 4000000 in
theorem ok_X10_back {sc : List Int32} : ∀ pc, pOk mtOf 189 M_X10_back false sc pc (cd_X10_back pc) := by
  unfold cd_X10_back
  exact ok_node
    (ok_node
    (ok_node
    (ok_node
    (ok_leaf (ok_aload_n (show decode cX10_back 0 = .ok (.aload_n 0, 1) by decide +kernel) rfl))
    (ok_leaf (ok_getfield (show decode cX10_back 1 = .ok (.getfield 29, 3) by decide +kernel) (Or.inr (fdF_X10 (by decide) wd_369 rfl rfl)))))
    (ok_node
    (ok_leaf (ok_aload_n (show decode cX10_back 4 = .ok (.aload_n 0, 1) by decide +kernel) rfl))
    (ok_leaf (ok_getfield (show decode cX10_back 5 = .ok (.getfield 19, 3) by decide +kernel) (Or.inr (fdF_X10 (by decide) wd_361 rfl rfl))))))
    (ok_node
    (ok_node
    (ok_leaf (ok_callV (C := RX4) (T := TX4) (N := 2) (Mc := M_X4_popInto) (show decode cX10_back 8 = .ok (.invokevirtual 201, 3) by decide +kernel) rfl (by decide) (by decide +kernel) rfl rfl wd_503 wd_504 wd_505 wd_365 wd_506 ⟨by decide +kernel, by decide +kernel, by decide +kernel⟩ (by decide)))
    (ok_leaf (ok_if_ne (show decode cX10_back 11 = .ok (.ifCond .ne 10, 3) by decide +kernel) (by decide +kernel))))
    (ok_node
    (ok_leaf (ok_aload_n (show decode cX10_back 14 = .ok (.aload_n 0, 1) by decide +kernel) rfl))
    (ok_node
    (ok_leaf (ok_bipush (show decode cX10_back 15 = .ok (.bipush (-3), 2) by decide +kernel) (by decide +kernel)))
    (ok_leaf (ok_callV (C := RX10) (T := TX10) (N := 12) (Mc := M_X10_refuse) (show decode cX10_back 17 = .ok (.invokevirtual 72, 3) by decide +kernel) rfl (by decide) (by decide +kernel) rfl rfl wd_399 wd_400 wd_401 wd_65 wd_402 ⟨by decide +kernel, by decide +kernel, by decide +kernel⟩ (by decide)))))))
    (ok_node
    (ok_node
    (ok_node
    (ok_leaf (ok_ireturn (show decode cX10_back 20 = .ok (.ireturn, 1) by decide +kernel) rfl))
    (ok_leaf (ok_aload_n (show decode cX10_back 21 = .ok (.aload_n 0, 1) by decide +kernel) rfl)))
    (ok_node
    (ok_leaf (ok_callV (C := RX10) (T := TX10) (N := 12) (Mc := M_X10_arrange) (show decode cX10_back 22 = .ok (.invokevirtual 97, 3) by decide +kernel) rfl (by decide) (by decide +kernel) rfl rfl wd_424 wd_425 wd_426 wd_65 wd_427 ⟨by decide +kernel, by decide +kernel, by decide +kernel⟩ (by decide)))
    (ok_node
    (ok_leaf (ok_aload_n (show decode cX10_back 25 = .ok (.aload_n 0, 1) by decide +kernel) rfl))
    (ok_leaf (ok_getfield (show decode cX10_back 26 = .ok (.getfield 61, 3) by decide +kernel) (Or.inr (fdF_X10 (by decide) wd_393 rfl rfl)))))))
    (ok_node
    (ok_node
    (ok_leaf (ok_callV (C := RX7) (T := TX7) (N := 10) (Mc := M_X7_forget) (show decode cX10_back 29 = .ok (.invokevirtual 100, 3) by decide +kernel) rfl (by decide) (by decide +kernel) rfl rfl wd_428 wd_429 wd_430 wd_218 wd_431 ⟨by decide +kernel, by decide +kernel, by decide +kernel⟩ (by decide)))
    (ok_leaf (ok_aload_n (show decode cX10_back 32 = .ok (.aload_n 0, 1) by decide +kernel) rfl)))
    (ok_node
    (ok_leaf (ok_getfield (show decode cX10_back 33 = .ok (.getfield 29, 3) by decide +kernel) (Or.inr (fdF_X10 (by decide) wd_369 rfl rfl))))
    (ok_node
    (ok_leaf (ok_callV (C := RX4) (T := TX4) (N := 2) (Mc := M_X4_count) (show decode cX10_back 36 = .ok (.invokevirtual 205, 3) by decide +kernel) rfl (by decide) (by decide +kernel) rfl rfl wd_507 wd_508 wd_509 wd_365 wd_510 ⟨by decide +kernel, by decide +kernel, by decide +kernel⟩ (by decide)))
    (ok_leaf (ok_ireturn (show decode cX10_back 39 = .ok (.ireturn, 1) by decide +kernel) rfl))))))
set_option maxRecDepth 20000 in
set_option maxHeartbeats 4000000 in
theorem ok_X10_told {sc : List Int32} : ∀ pc, pOk mtOf 189 M_X10_told false sc pc (cd_X10_told pc) := by
  unfold cd_X10_told
  exact ok_node
    (ok_node
    (ok_node
    (ok_leaf (ok_iload_n (show decode cX10_told 0 = .ok (.iload_n 1, 1) by decide +kernel) rfl))
    (ok_node
    (ok_leaf (ok_if_lt (show decode cX10_told 1 = .ok (.ifCond .lt 9, 3) by decide +kernel) (by decide +kernel)))
    (ok_leaf (ok_iload_n (show decode cX10_told 4 = .ok (.iload_n 1, 1) by decide +kernel) rfl))))
    (ok_node
    (ok_leaf (ok_bipush (show decode cX10_told 5 = .ok (.bipush 8, 2) by decide +kernel) (by decide +kernel)))
    (ok_node
    (ok_leaf (ok_icmp_lt (show decode cX10_told 7 = .ok (.if_icmp .lt 10, 3) by decide +kernel) (by decide +kernel)))
    (ok_leaf (ok_aload_n (show decode cX10_told 10 = .ok (.aload_n 0, 1) by decide +kernel) rfl)))))
    (ok_node
    (ok_node
    (ok_leaf (ok_bipush (show decode cX10_told 11 = .ok (.bipush (-2), 2) by decide +kernel) (by decide +kernel)))
    (ok_node
    (ok_leaf (ok_callV (C := RX10) (T := TX10) (N := 12) (Mc := M_X10_refuse) (show decode cX10_told 13 = .ok (.invokevirtual 72, 3) by decide +kernel) rfl (by decide) (by decide +kernel) rfl rfl wd_399 wd_400 wd_401 wd_65 wd_402 ⟨by decide +kernel, by decide +kernel, by decide +kernel⟩ (by decide)))
    (ok_leaf (ok_ireturn (show decode cX10_told 16 = .ok (.ireturn, 1) by decide +kernel) rfl))))
    (ok_node
    (ok_node
    (ok_leaf (ok_aload_n (show decode cX10_told 17 = .ok (.aload_n 0, 1) by decide +kernel) rfl))
    (ok_leaf (ok_iload_n (show decode cX10_told 18 = .ok (.iload_n 1, 1) by decide +kernel) rfl)))
    (ok_node
    (ok_leaf (ok_callV (C := RX10) (T := TX10) (N := 12) (Mc := M_X10_fact) (show decode cX10_told 19 = .ok (.invokevirtual 206, 3) by decide +kernel) rfl (by decide) (by decide +kernel) rfl rfl wd_511 wd_512 wd_513 wd_65 wd_514 ⟨by decide +kernel, by decide +kernel, by decide +kernel⟩ (by decide)))
    (ok_leaf (ok_ireturn (show decode cX10_told 22 = .ok (.ireturn, 1) by decide +kernel) rfl)))))
set_option maxRecDepth 20000 in
set_option maxHeartbeats 4000000 in
theorem ok_X10_digest {sc : List Int32} : ∀ pc, pOk mtOf 189 M_X10_digest false sc pc (cd_X10_digest pc) := by
  unfold cd_X10_digest
  exact ok_node
    (ok_node
    (ok_node
    (ok_node
    (ok_node
    (ok_node
    (ok_leaf (ok_ldc2 (show decode cX10_digest 0 = .ok (.ldc2_w 209, 3) by decide +kernel) wd_515))
    (ok_node
    (ok_leaf (ok_lstore_n (show decode cX10_digest 3 = .ok (.lstore_n 1, 1) by decide +kernel) rfl))
    (ok_leaf (ok_iconst (show decode cX10_digest 4 = .ok (.iconst 0, 1) by decide +kernel) (by decide +kernel)))))
    (ok_node
    (ok_leaf (ok_istore_n (show decode cX10_digest 5 = .ok (.istore_n 3, 1) by decide +kernel) rfl))
    (ok_node
    (ok_leaf (ok_iload_n (show decode cX10_digest 6 = .ok (.iload_n 3, 1) by decide +kernel) rfl))
    (ok_leaf (ok_bipush (show decode cX10_digest 7 = .ok (.bipush 8, 2) by decide +kernel) (by decide +kernel))))))
    (ok_node
    (ok_node
    (ok_leaf (ok_icmp_ge (show decode cX10_digest 9 = .ok (.if_icmp .ge 22, 3) by decide +kernel) (by decide +kernel)))
    (ok_node
    (ok_leaf (ok_ldc2 (show decode cX10_digest 12 = .ok (.ldc2_w 211, 3) by decide +kernel) wd_516))
    (ok_leaf (ok_lload_n (show decode cX10_digest 15 = .ok (.lload_n 1, 1) by decide +kernel) rfl))))
    (ok_node
    (ok_leaf (ok_lmul (show decode cX10_digest 16 = .ok (.lmul, 1) by decide +kernel)))
    (ok_node
    (ok_leaf (ok_aload_n (show decode cX10_digest 17 = .ok (.aload_n 0, 1) by decide +kernel) rfl))
    (ok_leaf (ok_iload_n (show decode cX10_digest 18 = .ok (.iload_n 3, 1) by decide +kernel) rfl))))))
    (ok_node
    (ok_node
    (ok_node
    (ok_leaf (ok_callV (C := RX10) (T := TX10) (N := 12) (Mc := M_X10_fact) (show decode cX10_digest 19 = .ok (.invokevirtual 206, 3) by decide +kernel) rfl (by decide) (by decide +kernel) rfl rfl wd_511 wd_512 wd_513 wd_65 wd_514 ⟨by decide +kernel, by decide +kernel, by decide +kernel⟩ (by decide)))
    (ok_node
    (ok_leaf (ok_i2l (show decode cX10_digest 22 = .ok (.i2l, 1) by decide +kernel)))
    (ok_leaf (ok_ladd (show decode cX10_digest 23 = .ok (.ladd, 1) by decide +kernel)))))
    (ok_node
    (ok_leaf (ok_lstore_n (show decode cX10_digest 24 = .ok (.lstore_n 1, 1) by decide +kernel) rfl))
    (ok_node
    (ok_leaf (ok_iinc (show decode cX10_digest 25 = .ok (.iinc 3 1, 3) by decide +kernel) (by decide +kernel)))
    (ok_leaf (ok_goto (show decode cX10_digest 28 = .ok (.goto (-22), 3) by decide +kernel) (by decide +kernel))))))
    (ok_node
    (ok_node
    (ok_leaf (ok_iconst (show decode cX10_digest 31 = .ok (.iconst 0, 1) by decide +kernel) (by decide +kernel)))
    (ok_node
    (ok_leaf (ok_istore_n (show decode cX10_digest 32 = .ok (.istore_n 3, 1) by decide +kernel) rfl))
    (ok_leaf (ok_iload_n (show decode cX10_digest 33 = .ok (.iload_n 3, 1) by decide +kernel) rfl))))
    (ok_node
    (ok_node
    (ok_leaf (ok_aload_n (show decode cX10_digest 34 = .ok (.aload_n 0, 1) by decide +kernel) rfl))
    (ok_leaf (ok_getfield (show decode cX10_digest 35 = .ok (.getfield 19, 3) by decide +kernel) (Or.inr (fdF_X10 (by decide) wd_361 rfl rfl)))))
    (ok_node
    (ok_leaf (ok_callV (C := RX2) (T := TX2) (N := 7) (Mc := M_X2_count) (show decode cX10_digest 38 = .ok (.invokevirtual 103, 3) by decide +kernel) rfl (by decide) (by decide +kernel) rfl rfl wd_432 wd_56 wd_57 wd_58 wd_59 ⟨by decide +kernel, by decide +kernel, by decide +kernel⟩ (by decide)))
    (ok_leaf (ok_icmp_ge (show decode cX10_digest 41 = .ok (.if_icmp .ge 46, 3) by decide +kernel) (by decide +kernel))))))))
    (ok_node
    (ok_node
    (ok_node
    (ok_node
    (ok_leaf (ok_iconst (show decode cX10_digest 44 = .ok (.iconst 0, 1) by decide +kernel) (by decide +kernel)))
    (ok_node
    (ok_leaf (ok_istore (show decode cX10_digest 45 = .ok (.istore 4, 2) by decide +kernel)))
    (ok_leaf (ok_iload (show decode cX10_digest 47 = .ok (.iload 4, 2) by decide +kernel)))))
    (ok_node
    (ok_leaf (ok_bipush (show decode cX10_digest 49 = .ok (.bipush 8, 2) by decide +kernel) (by decide +kernel)))
    (ok_node
    (ok_leaf (ok_icmp_ge (show decode cX10_digest 51 = .ok (.if_icmp .ge 30, 3) by decide +kernel) (by decide +kernel)))
    (ok_leaf (ok_ldc2 (show decode cX10_digest 54 = .ok (.ldc2_w 211, 3) by decide +kernel) wd_516)))))
    (ok_node
    (ok_node
    (ok_leaf (ok_lload_n (show decode cX10_digest 57 = .ok (.lload_n 1, 1) by decide +kernel) rfl))
    (ok_node
    (ok_leaf (ok_lmul (show decode cX10_digest 58 = .ok (.lmul, 1) by decide +kernel)))
    (ok_leaf (ok_aload_n (show decode cX10_digest 59 = .ok (.aload_n 0, 1) by decide +kernel) rfl))))
    (ok_node
    (ok_leaf (ok_iload_n (show decode cX10_digest 60 = .ok (.iload_n 3, 1) by decide +kernel) rfl))
    (ok_node
    (ok_leaf (ok_iload (show decode cX10_digest 61 = .ok (.iload 4, 2) by decide +kernel)))
    (ok_leaf (ok_iconst (show decode cX10_digest 63 = .ok (.iconst 4, 1) by decide +kernel) (by decide +kernel)))))))
    (ok_node
    (ok_node
    (ok_node
    (ok_leaf (ok_idiv (show decode cX10_digest 64 = .ok (.idiv, 1) by decide +kernel)))
    (ok_node
    (ok_leaf (ok_iload (show decode cX10_digest 65 = .ok (.iload 4, 2) by decide +kernel)))
    (ok_leaf (ok_iconst (show decode cX10_digest 67 = .ok (.iconst 4, 1) by decide +kernel) (by decide +kernel)))))
    (ok_node
    (ok_leaf (ok_irem (show decode cX10_digest 68 = .ok (.irem, 1) by decide +kernel)))
    (ok_node
    (ok_leaf (ok_callV (C := RX10) (T := TX10) (N := 12) (Mc := M_X10_sideFact) (show decode cX10_digest 69 = .ok (.invokevirtual 126, 3) by decide +kernel) rfl (by decide) (by decide +kernel) rfl rfl wd_445 wd_446 wd_447 wd_65 wd_448 ⟨by decide +kernel, by decide +kernel, by decide +kernel⟩ (by decide)))
    (ok_leaf (ok_i2l (show decode cX10_digest 72 = .ok (.i2l, 1) by decide +kernel))))))
    (ok_node
    (ok_node
    (ok_leaf (ok_ladd (show decode cX10_digest 73 = .ok (.ladd, 1) by decide +kernel)))
    (ok_node
    (ok_leaf (ok_lstore_n (show decode cX10_digest 74 = .ok (.lstore_n 1, 1) by decide +kernel) rfl))
    (ok_leaf (ok_iinc (show decode cX10_digest 75 = .ok (.iinc 4 1, 3) by decide +kernel) (by decide +kernel)))))
    (ok_node
    (ok_node
    (ok_leaf (ok_goto (show decode cX10_digest 78 = .ok (.goto (-31), 3) by decide +kernel) (by decide +kernel)))
    (ok_leaf (ok_iinc (show decode cX10_digest 81 = .ok (.iinc 3 1, 3) by decide +kernel) (by decide +kernel))))
    (ok_node
    (ok_leaf (ok_goto (show decode cX10_digest 84 = .ok (.goto (-51), 3) by decide +kernel) (by decide +kernel)))
    (ok_leaf (ok_iconst (show decode cX10_digest 87 = .ok (.iconst 0, 1) by decide +kernel) (by decide +kernel)))))))))
    (ok_node
    (ok_node
    (ok_node
    (ok_node
    (ok_node
    (ok_leaf (ok_istore_n (show decode cX10_digest 88 = .ok (.istore_n 3, 1) by decide +kernel) rfl))
    (ok_node
    (ok_leaf (ok_iload_n (show decode cX10_digest 89 = .ok (.iload_n 3, 1) by decide +kernel) rfl))
    (ok_leaf (ok_iconst (show decode cX10_digest 90 = .ok (.iconst 4, 1) by decide +kernel) (by decide +kernel)))))
    (ok_node
    (ok_leaf (ok_icmp_ge (show decode cX10_digest 91 = .ok (.if_icmp .ge 25, 3) by decide +kernel) (by decide +kernel)))
    (ok_node
    (ok_leaf (ok_ldc2 (show decode cX10_digest 94 = .ok (.ldc2_w 211, 3) by decide +kernel) wd_516))
    (ok_leaf (ok_lload_n (show decode cX10_digest 97 = .ok (.lload_n 1, 1) by decide +kernel) rfl)))))
    (ok_node
    (ok_node
    (ok_leaf (ok_lmul (show decode cX10_digest 98 = .ok (.lmul, 1) by decide +kernel)))
    (ok_node
    (ok_leaf (ok_aload_n (show decode cX10_digest 99 = .ok (.aload_n 0, 1) by decide +kernel) rfl))
    (ok_leaf (ok_getfield (show decode cX10_digest 100 = .ok (.getfield 38, 3) by decide +kernel) (Or.inr (fdF_X10 (by decide) wd_375 rfl rfl))))))
    (ok_node
    (ok_leaf (ok_iload_n (show decode cX10_digest 103 = .ok (.iload_n 3, 1) by decide +kernel) rfl))
    (ok_node
    (ok_leaf (ok_callV (C := RX6) (T := TX6) (N := 4) (Mc := M_X6_howMany) (show decode cX10_digest 104 = .ok (.invokevirtual 144, 3) by decide +kernel) rfl (by decide) (by decide +kernel) rfl rfl wd_466 wd_221 wd_222 wd_174 wd_223 ⟨by decide +kernel, by decide +kernel, by decide +kernel⟩ (by decide)))
    (ok_leaf (ok_i2l (show decode cX10_digest 107 = .ok (.i2l, 1) by decide +kernel)))))))
    (ok_node
    (ok_node
    (ok_node
    (ok_leaf (ok_ladd (show decode cX10_digest 108 = .ok (.ladd, 1) by decide +kernel)))
    (ok_node
    (ok_leaf (ok_lstore_n (show decode cX10_digest 109 = .ok (.lstore_n 1, 1) by decide +kernel) rfl))
    (ok_leaf (ok_iinc (show decode cX10_digest 110 = .ok (.iinc 3 1, 3) by decide +kernel) (by decide +kernel)))))
    (ok_node
    (ok_leaf (ok_goto (show decode cX10_digest 113 = .ok (.goto (-24), 3) by decide +kernel) (by decide +kernel)))
    (ok_node
    (ok_leaf (ok_ldc2 (show decode cX10_digest 116 = .ok (.ldc2_w 211, 3) by decide +kernel) wd_516))
    (ok_leaf (ok_lload_n (show decode cX10_digest 119 = .ok (.lload_n 1, 1) by decide +kernel) rfl)))))
    (ok_node
    (ok_node
    (ok_leaf (ok_lmul (show decode cX10_digest 120 = .ok (.lmul, 1) by decide +kernel)))
    (ok_node
    (ok_leaf (ok_aload_n (show decode cX10_digest 121 = .ok (.aload_n 0, 1) by decide +kernel) rfl))
    (ok_leaf (ok_getfield (show decode cX10_digest 122 = .ok (.getfield 61, 3) by decide +kernel) (Or.inr (fdF_X10 (by decide) wd_393 rfl rfl))))))
    (ok_node
    (ok_node
    (ok_leaf (ok_callV (C := RX7) (T := TX7) (N := 10) (Mc := M_X7_found) (show decode cX10_digest 125 = .ok (.invokevirtual 163, 3) by decide +kernel) rfl (by decide) (by decide +kernel) rfl rfl wd_476 wd_477 wd_478 wd_218 wd_479 ⟨by decide +kernel, by decide +kernel, by decide +kernel⟩ (by decide)))
    (ok_leaf (ok_i2l (show decode cX10_digest 128 = .ok (.i2l, 1) by decide +kernel))))
    (ok_node
    (ok_leaf (ok_ladd (show decode cX10_digest 129 = .ok (.ladd, 1) by decide +kernel)))
    (ok_leaf (ok_lstore_n (show decode cX10_digest 130 = .ok (.lstore_n 1, 1) by decide +kernel) rfl)))))))
    (ok_node
    (ok_node
    (ok_node
    (ok_node
    (ok_leaf (ok_iconst (show decode cX10_digest 131 = .ok (.iconst 0, 1) by decide +kernel) (by decide +kernel)))
    (ok_node
    (ok_leaf (ok_istore_n (show decode cX10_digest 132 = .ok (.istore_n 3, 1) by decide +kernel) rfl))
    (ok_leaf (ok_iload_n (show decode cX10_digest 133 = .ok (.iload_n 3, 1) by decide +kernel) rfl))))
    (ok_node
    (ok_leaf (ok_aload_n (show decode cX10_digest 134 = .ok (.aload_n 0, 1) by decide +kernel) rfl))
    (ok_node
    (ok_leaf (ok_getfield (show decode cX10_digest 135 = .ok (.getfield 61, 3) by decide +kernel) (Or.inr (fdF_X10 (by decide) wd_393 rfl rfl))))
    (ok_leaf (ok_callV (C := RX7) (T := TX7) (N := 10) (Mc := M_X7_found) (show decode cX10_digest 138 = .ok (.invokevirtual 163, 3) by decide +kernel) rfl (by decide) (by decide +kernel) rfl rfl wd_476 wd_477 wd_478 wd_218 wd_479 ⟨by decide +kernel, by decide +kernel, by decide +kernel⟩ (by decide))))))
    (ok_node
    (ok_node
    (ok_leaf (ok_icmp_ge (show decode cX10_digest 141 = .ok (.if_icmp .ge 32, 3) by decide +kernel) (by decide +kernel)))
    (ok_node
    (ok_leaf (ok_ldc2 (show decode cX10_digest 144 = .ok (.ldc2_w 211, 3) by decide +kernel) wd_516))
    (ok_leaf (ok_lload_n (show decode cX10_digest 147 = .ok (.lload_n 1, 1) by decide +kernel) rfl))))
    (ok_node
    (ok_node
    (ok_leaf (ok_lmul (show decode cX10_digest 148 = .ok (.lmul, 1) by decide +kernel)))
    (ok_leaf (ok_aload_n (show decode cX10_digest 149 = .ok (.aload_n 0, 1) by decide +kernel) rfl)))
    (ok_node
    (ok_leaf (ok_getfield (show decode cX10_digest 150 = .ok (.getfield 61, 3) by decide +kernel) (Or.inr (fdF_X10 (by decide) wd_393 rfl rfl))))
    (ok_leaf (ok_iload_n (show decode cX10_digest 153 = .ok (.iload_n 3, 1) by decide +kernel) rfl))))))
    (ok_node
    (ok_node
    (ok_node
    (ok_leaf (ok_callV (C := RX7) (T := TX7) (N := 10) (Mc := M_X7_sizeOf) (show decode cX10_digest 154 = .ok (.invokevirtual 166, 3) by decide +kernel) rfl (by decide) (by decide +kernel) rfl rfl wd_480 wd_481 wd_482 wd_218 wd_483 ⟨by decide +kernel, by decide +kernel, by decide +kernel⟩ (by decide)))
    (ok_node
    (ok_leaf (ok_i2l (show decode cX10_digest 157 = .ok (.i2l, 1) by decide +kernel)))
    (ok_leaf (ok_ladd (show decode cX10_digest 158 = .ok (.ladd, 1) by decide +kernel)))))
    (ok_node
    (ok_leaf (ok_lstore_n (show decode cX10_digest 159 = .ok (.lstore_n 1, 1) by decide +kernel) rfl))
    (ok_node
    (ok_leaf (ok_aload_n (show decode cX10_digest 160 = .ok (.aload_n 0, 1) by decide +kernel) rfl))
    (ok_leaf (ok_lload_n (show decode cX10_digest 161 = .ok (.lload_n 1, 1) by decide +kernel) rfl)))))
    (ok_node
    (ok_node
    (ok_leaf (ok_iload_n (show decode cX10_digest 162 = .ok (.iload_n 3, 1) by decide +kernel) rfl))
    (ok_node
    (ok_leaf (ok_callV (C := RX10) (T := TX10) (N := 12) (Mc := M_X10_digestBodies) (show decode cX10_digest 163 = .ok (.invokevirtual 213, 3) by decide +kernel) rfl (by decide) (by decide +kernel) rfl rfl wd_517 wd_518 wd_519 wd_65 wd_520 ⟨by decide +kernel, by decide +kernel, by decide +kernel⟩ (by decide)))
    (ok_leaf (ok_lstore_n (show decode cX10_digest 166 = .ok (.lstore_n 1, 1) by decide +kernel) rfl))))
    (ok_node
    (ok_node
    (ok_leaf (ok_iinc (show decode cX10_digest 167 = .ok (.iinc 3 1, 3) by decide +kernel) (by decide +kernel)))
    (ok_leaf (ok_goto (show decode cX10_digest 170 = .ok (.goto (-37), 3) by decide +kernel) (by decide +kernel))))
    (ok_node
    (ok_leaf (ok_lload_n (show decode cX10_digest 173 = .ok (.lload_n 1, 1) by decide +kernel) rfl))
    (ok_leaf (ok_lreturn (show decode cX10_digest 174 = .ok (.lreturn, 1) by decide +kernel) rfl))))))))
set_option maxRecDepth 20000 in
set_option maxHeartbeats 4000000 in
theorem ok_X10_digestBodies {sc : List Int32} : ∀ pc, pOk mtOf 189 M_X10_digestBodies false sc pc (cd_X10_digestBodies pc) := by
  unfold cd_X10_digestBodies
  exact ok_node
    (ok_node
    (ok_node
    (ok_node
    (ok_node
    (ok_leaf (ok_lload_n (show decode cX10_digestBodies 0 = .ok (.lload_n 1, 1) by decide +kernel) rfl))
    (ok_leaf (ok_lstore (show decode cX10_digestBodies 1 = .ok (.lstore 4, 2) by decide +kernel))))
    (ok_node
    (ok_leaf (ok_iconst (show decode cX10_digestBodies 3 = .ok (.iconst 0, 1) by decide +kernel) (by decide +kernel)))
    (ok_node
    (ok_leaf (ok_istore (show decode cX10_digestBodies 4 = .ok (.istore 6, 2) by decide +kernel)))
    (ok_leaf (ok_iload (show decode cX10_digestBodies 6 = .ok (.iload 6, 2) by decide +kernel))))))
    (ok_node
    (ok_node
    (ok_leaf (ok_bipush (show decode cX10_digestBodies 8 = .ok (.bipush 6, 2) by decide +kernel) (by decide +kernel)))
    (ok_leaf (ok_icmp_ge (show decode cX10_digestBodies 10 = .ok (.if_icmp .ge 73, 3) by decide +kernel) (by decide +kernel))))
    (ok_node
    (ok_leaf (ok_aload_n (show decode cX10_digestBodies 13 = .ok (.aload_n 0, 1) by decide +kernel) rfl))
    (ok_node
    (ok_leaf (ok_getfield (show decode cX10_digestBodies 14 = .ok (.getfield 68, 3) by decide +kernel) (Or.inr (fdF_X10 (by decide) wd_398 rfl rfl))))
    (ok_leaf (ok_callV (C := RX9) (T := TX9) (N := 4) (Mc := M_X9_begin) (show decode cX10_digestBodies 17 = .ok (.invokevirtual 130, 3) by decide +kernel) rfl (by decide) (by decide +kernel) rfl rfl wd_449 wd_450 wd_451 wd_341 wd_452 ⟨by decide +kernel, by decide +kernel, by decide +kernel⟩ (by decide)))))))
    (ok_node
    (ok_node
    (ok_node
    (ok_leaf (ok_aload_n (show decode cX10_digestBodies 20 = .ok (.aload_n 0, 1) by decide +kernel) rfl))
    (ok_leaf (ok_getfield (show decode cX10_digestBodies 21 = .ok (.getfield 68, 3) by decide +kernel) (Or.inr (fdF_X10 (by decide) wd_398 rfl rfl)))))
    (ok_node
    (ok_leaf (ok_aload_n (show decode cX10_digestBodies 24 = .ok (.aload_n 0, 1) by decide +kernel) rfl))
    (ok_node
    (ok_leaf (ok_getfield (show decode cX10_digestBodies 25 = .ok (.getfield 61, 3) by decide +kernel) (Or.inr (fdF_X10 (by decide) wd_393 rfl rfl))))
    (ok_leaf (ok_iload_n (show decode cX10_digestBodies 28 = .ok (.iload_n 3, 1) by decide +kernel) rfl)))))
    (ok_node
    (ok_node
    (ok_leaf (ok_iload (show decode cX10_digestBodies 29 = .ok (.iload 6, 2) by decide +kernel)))
    (ok_leaf (ok_callV (C := RX7) (T := TX7) (N := 10) (Mc := M_X7_wordOf) (show decode cX10_digestBodies 31 = .ok (.invokevirtual 171, 3) by decide +kernel) rfl (by decide) (by decide +kernel) rfl rfl wd_484 wd_230 wd_231 wd_218 wd_232 ⟨by decide +kernel, by decide +kernel, by decide +kernel⟩ (by decide))))
    (ok_node
    (ok_leaf (ok_callV (C := RX9) (T := TX9) (N := 4) (Mc := M_X9_putBody) (show decode cX10_digestBodies 34 = .ok (.invokevirtual 177, 3) by decide +kernel) rfl (by decide) (by decide +kernel) rfl rfl wd_486 wd_487 wd_488 wd_341 wd_489 ⟨by decide +kernel, by decide +kernel, by decide +kernel⟩ (by decide)))
    (ok_node
    (ok_leaf (ok_iconst (show decode cX10_digestBodies 37 = .ok (.iconst 0, 1) by decide +kernel) (by decide +kernel)))
    (ok_leaf (ok_istore (show decode cX10_digestBodies 38 = .ok (.istore 7, 2) by decide +kernel))))))))
    (ok_node
    (ok_node
    (ok_node
    (ok_node
    (ok_leaf (ok_iload (show decode cX10_digestBodies 40 = .ok (.iload 7, 2) by decide +kernel)))
    (ok_leaf (ok_aload_n (show decode cX10_digestBodies 42 = .ok (.aload_n 0, 1) by decide +kernel) rfl)))
    (ok_node
    (ok_leaf (ok_getfield (show decode cX10_digestBodies 43 = .ok (.getfield 68, 3) by decide +kernel) (Or.inr (fdF_X10 (by decide) wd_398 rfl rfl))))
    (ok_node
    (ok_leaf (ok_callV (C := RX9) (T := TX9) (N := 4) (Mc := M_X9_length) (show decode cX10_digestBodies 46 = .ok (.invokevirtual 140, 3) by decide +kernel) rfl (by decide) (by decide +kernel) rfl rfl wd_458 wd_459 wd_460 wd_341 wd_461 ⟨by decide +kernel, by decide +kernel, by decide +kernel⟩ (by decide)))
    (ok_leaf (ok_icmp_ge (show decode cX10_digestBodies 49 = .ok (.if_icmp .ge 28, 3) by decide +kernel) (by decide +kernel))))))
    (ok_node
    (ok_node
    (ok_leaf (ok_ldc2 (show decode cX10_digestBodies 52 = .ok (.ldc2_w 211, 3) by decide +kernel) wd_516))
    (ok_leaf (ok_lload (show decode cX10_digestBodies 55 = .ok (.lload 4, 2) by decide +kernel))))
    (ok_node
    (ok_leaf (ok_lmul (show decode cX10_digestBodies 57 = .ok (.lmul, 1) by decide +kernel)))
    (ok_node
    (ok_leaf (ok_aload_n (show decode cX10_digestBodies 58 = .ok (.aload_n 0, 1) by decide +kernel) rfl))
    (ok_leaf (ok_getfield (show decode cX10_digestBodies 59 = .ok (.getfield 68, 3) by decide +kernel) (Or.inr (fdF_X10 (by decide) wd_398 rfl rfl))))))))
    (ok_node
    (ok_node
    (ok_node
    (ok_leaf (ok_iload (show decode cX10_digestBodies 62 = .ok (.iload 7, 2) by decide +kernel)))
    (ok_leaf (ok_callV (C := RX9) (T := TX9) (N := 4) (Mc := M_X9_byteAt) (show decode cX10_digestBodies 64 = .ok (.invokevirtual 141, 3) by decide +kernel) rfl (by decide) (by decide +kernel) rfl rfl wd_462 wd_463 wd_464 wd_341 wd_465 ⟨by decide +kernel, by decide +kernel, by decide +kernel⟩ (by decide))))
    (ok_node
    (ok_leaf (ok_i2l (show decode cX10_digestBodies 67 = .ok (.i2l, 1) by decide +kernel)))
    (ok_node
    (ok_leaf (ok_ladd (show decode cX10_digestBodies 68 = .ok (.ladd, 1) by decide +kernel)))
    (ok_leaf (ok_lstore (show decode cX10_digestBodies 69 = .ok (.lstore 4, 2) by decide +kernel))))))
    (ok_node
    (ok_node
    (ok_leaf (ok_iinc (show decode cX10_digestBodies 71 = .ok (.iinc 7 1, 3) by decide +kernel) (by decide +kernel)))
    (ok_node
    (ok_leaf (ok_goto (show decode cX10_digestBodies 74 = .ok (.goto (-34), 3) by decide +kernel) (by decide +kernel)))
    (ok_leaf (ok_iinc (show decode cX10_digestBodies 77 = .ok (.iinc 6 1, 3) by decide +kernel) (by decide +kernel)))))
    (ok_node
    (ok_leaf (ok_goto (show decode cX10_digestBodies 80 = .ok (.goto (-74), 3) by decide +kernel) (by decide +kernel)))
    (ok_node
    (ok_leaf (ok_lload (show decode cX10_digestBodies 83 = .ok (.lload 4, 2) by decide +kernel)))
    (ok_leaf (ok_lreturn (show decode cX10_digestBodies 85 = .ok (.lreturn, 1) by decide +kernel) rfl)))))))
set_option maxRecDepth 20000 in
set_option maxHeartbeats 4000000 in
theorem ok_X10_fact {sc : List Int32} : ∀ pc, pOk mtOf 189 M_X10_fact false sc pc (cd_X10_fact pc) := by
  unfold cd_X10_fact
  exact ok_node
    (ok_node
    (ok_node
    (ok_node
    (ok_node
    (ok_leaf (ok_iload_n (show decode cX10_fact 0 = .ok (.iload_n 1, 1) by decide +kernel) rfl))
    (ok_leaf (ok_table (show decode cX10_fact 1 = .ok (.tableswitch 98 0 6 #[43, 48, 53, 58, 66, 74, 82], 43) by decide +kernel) (by decide +kernel) (by decide +kernel) (by decide +kernel) (by decide +kernel))))
    (ok_node
    (ok_leaf (ok_aload_n (show decode cX10_fact 44 = .ok (.aload_n 0, 1) by decide +kernel) rfl))
    (ok_leaf (ok_getfield (show decode cX10_fact 45 = .ok (.getfield 217, 3) by decide +kernel) (Or.inl (fd_X10 (by decide) wd_521 rfl rfl))))))
    (ok_node
    (ok_node
    (ok_leaf (ok_ireturn (show decode cX10_fact 48 = .ok (.ireturn, 1) by decide +kernel) rfl))
    (ok_leaf (ok_aload_n (show decode cX10_fact 49 = .ok (.aload_n 0, 1) by decide +kernel) rfl)))
    (ok_node
    (ok_leaf (ok_getfield (show decode cX10_fact 50 = .ok (.getfield 221, 3) by decide +kernel) (Or.inl (fd_X10 (by decide) wd_522 rfl rfl))))
    (ok_leaf (ok_ireturn (show decode cX10_fact 53 = .ok (.ireturn, 1) by decide +kernel) rfl)))))
    (ok_node
    (ok_node
    (ok_node
    (ok_leaf (ok_aload_n (show decode cX10_fact 54 = .ok (.aload_n 0, 1) by decide +kernel) rfl))
    (ok_leaf (ok_getfield (show decode cX10_fact 55 = .ok (.getfield 224, 3) by decide +kernel) (Or.inl (fd_X10 (by decide) wd_523 rfl rfl)))))
    (ok_node
    (ok_leaf (ok_ireturn (show decode cX10_fact 58 = .ok (.ireturn, 1) by decide +kernel) rfl))
    (ok_leaf (ok_aload_n (show decode cX10_fact 59 = .ok (.aload_n 0, 1) by decide +kernel) rfl))))
    (ok_node
    (ok_node
    (ok_leaf (ok_getfield (show decode cX10_fact 60 = .ok (.getfield 10, 3) by decide +kernel) (Or.inr (fdF_X10 (by decide) wd_359 rfl rfl))))
    (ok_leaf (ok_callV (C := RX8) (T := TX8) (N := 5) (Mc := M_X8_length) (show decode cX10_fact 63 = .ok (.invokevirtual 80, 3) by decide +kernel) rfl (by decide) (by decide +kernel) rfl rfl wd_407 wd_408 wd_409 wd_303 wd_410 ⟨by decide +kernel, by decide +kernel, by decide +kernel⟩ (by decide))))
    (ok_node
    (ok_leaf (ok_ireturn (show decode cX10_fact 66 = .ok (.ireturn, 1) by decide +kernel) rfl))
    (ok_node
    (ok_leaf (ok_aload_n (show decode cX10_fact 67 = .ok (.aload_n 0, 1) by decide +kernel) rfl))
    (ok_leaf (ok_getfield (show decode cX10_fact 68 = .ok (.getfield 19, 3) by decide +kernel) (Or.inr (fdF_X10 (by decide) wd_361 rfl rfl)))))))))
    (ok_node
    (ok_node
    (ok_node
    (ok_node
    (ok_leaf (ok_callV (C := RX2) (T := TX2) (N := 7) (Mc := M_X2_count) (show decode cX10_fact 71 = .ok (.invokevirtual 103, 3) by decide +kernel) rfl (by decide) (by decide +kernel) rfl rfl wd_432 wd_56 wd_57 wd_58 wd_59 ⟨by decide +kernel, by decide +kernel, by decide +kernel⟩ (by decide)))
    (ok_leaf (ok_ireturn (show decode cX10_fact 74 = .ok (.ireturn, 1) by decide +kernel) rfl)))
    (ok_node
    (ok_leaf (ok_aload_n (show decode cX10_fact 75 = .ok (.aload_n 0, 1) by decide +kernel) rfl))
    (ok_leaf (ok_getfield (show decode cX10_fact 76 = .ok (.getfield 19, 3) by decide +kernel) (Or.inr (fdF_X10 (by decide) wd_361 rfl rfl))))))
    (ok_node
    (ok_node
    (ok_leaf (ok_callV (C := RX2) (T := TX2) (N := 7) (Mc := M_X2_total) (show decode cX10_fact 79 = .ok (.invokevirtual 227, 3) by decide +kernel) rfl (by decide) (by decide +kernel) rfl rfl wd_524 wd_241 wd_242 wd_58 wd_243 ⟨by decide +kernel, by decide +kernel, by decide +kernel⟩ (by decide)))
    (ok_leaf (ok_ireturn (show decode cX10_fact 82 = .ok (.ireturn, 1) by decide +kernel) rfl)))
    (ok_node
    (ok_leaf (ok_aload_n (show decode cX10_fact 83 = .ok (.aload_n 0, 1) by decide +kernel) rfl))
    (ok_node
    (ok_leaf (ok_getfield (show decode cX10_fact 84 = .ok (.getfield 19, 3) by decide +kernel) (Or.inr (fdF_X10 (by decide) wd_361 rfl rfl))))
    (ok_leaf (ok_iconst (show decode cX10_fact 87 = .ok (.iconst 0, 1) by decide +kernel) (by decide +kernel)))))))
    (ok_node
    (ok_node
    (ok_node
    (ok_leaf (ok_aload_n (show decode cX10_fact 88 = .ok (.aload_n 0, 1) by decide +kernel) rfl))
    (ok_leaf (ok_getfield (show decode cX10_fact 89 = .ok (.getfield 19, 3) by decide +kernel) (Or.inr (fdF_X10 (by decide) wd_361 rfl rfl)))))
    (ok_node
    (ok_leaf (ok_callV (C := RX2) (T := TX2) (N := 7) (Mc := M_X2_total) (show decode cX10_fact 92 = .ok (.invokevirtual 227, 3) by decide +kernel) rfl (by decide) (by decide +kernel) rfl rfl wd_524 wd_241 wd_242 wd_58 wd_243 ⟨by decide +kernel, by decide +kernel, by decide +kernel⟩ (by decide)))
    (ok_leaf (ok_callV (C := RX2) (T := TX2) (N := 7) (Mc := M_X2_flexIn) (show decode cX10_fact 95 = .ok (.invokevirtual 230, 3) by decide +kernel) rfl (by decide) (by decide +kernel) rfl rfl wd_525 wd_189 wd_190 wd_58 wd_191 ⟨by decide +kernel, by decide +kernel, by decide +kernel⟩ (by decide)))))
    (ok_node
    (ok_node
    (ok_leaf (ok_ireturn (show decode cX10_fact 98 = .ok (.ireturn, 1) by decide +kernel) rfl))
    (ok_leaf (ok_aload_n (show decode cX10_fact 99 = .ok (.aload_n 0, 1) by decide +kernel) rfl)))
    (ok_node
    (ok_leaf (ok_getfield (show decode cX10_fact 100 = .ok (.getfield 29, 3) by decide +kernel) (Or.inr (fdF_X10 (by decide) wd_369 rfl rfl))))
    (ok_node
    (ok_leaf (ok_callV (C := RX4) (T := TX4) (N := 2) (Mc := M_X4_count) (show decode cX10_fact 103 = .ok (.invokevirtual 205, 3) by decide +kernel) rfl (by decide) (by decide +kernel) rfl rfl wd_507 wd_508 wd_509 wd_365 wd_510 ⟨by decide +kernel, by decide +kernel, by decide +kernel⟩ (by decide)))
    (ok_leaf (ok_ireturn (show decode cX10_fact 106 = .ok (.ireturn, 1) by decide +kernel) rfl)))))))
set_option maxRecDepth 20000 in
set_option maxHeartbeats 4000000 in
theorem ok_X10_sideFact {sc : List Int32} : ∀ pc, pOk mtOf 189 M_X10_sideFact false sc pc (cd_X10_sideFact pc) := by
  unfold cd_X10_sideFact
  exact ok_node
    (ok_node
    (ok_node
    (ok_node
    (ok_node
    (ok_leaf (ok_aload_n (show decode cX10_sideFact 0 = .ok (.aload_n 0, 1) by decide +kernel) rfl))
    (ok_leaf (ok_getfield (show decode cX10_sideFact 1 = .ok (.getfield 19, 3) by decide +kernel) (Or.inr (fdF_X10 (by decide) wd_361 rfl rfl)))))
    (ok_node
    (ok_leaf (ok_iload_n (show decode cX10_sideFact 4 = .ok (.iload_n 1, 1) by decide +kernel) rfl))
    (ok_leaf (ok_iload_n (show decode cX10_sideFact 5 = .ok (.iload_n 2, 1) by decide +kernel) rfl))))
    (ok_node
    (ok_node
    (ok_leaf (ok_callV (C := RX2) (T := TX2) (N := 7) (Mc := M_X2_start) (show decode cX10_sideFact 6 = .ok (.invokevirtual 116, 3) by decide +kernel) rfl (by decide) (by decide +kernel) rfl rfl wd_442 wd_194 wd_195 wd_58 wd_196 ⟨by decide +kernel, by decide +kernel, by decide +kernel⟩ (by decide)))
    (ok_leaf (ok_istore (show decode cX10_sideFact 9 = .ok (.istore 4, 2) by decide +kernel))))
    (ok_node
    (ok_leaf (ok_iload_n (show decode cX10_sideFact 11 = .ok (.iload_n 3, 1) by decide +kernel) rfl))
    (ok_leaf (ok_table (show decode cX10_sideFact 12 = .ok (.tableswitch 67 0 2 #[28, 38, 57], 28) by decide +kernel) (by decide +kernel) (by decide +kernel) (by decide +kernel) (by decide +kernel))))))
    (ok_node
    (ok_node
    (ok_node
    (ok_leaf (ok_aload_n (show decode cX10_sideFact 40 = .ok (.aload_n 0, 1) by decide +kernel) rfl))
    (ok_leaf (ok_getfield (show decode cX10_sideFact 41 = .ok (.getfield 19, 3) by decide +kernel) (Or.inr (fdF_X10 (by decide) wd_361 rfl rfl)))))
    (ok_node
    (ok_leaf (ok_iload (show decode cX10_sideFact 44 = .ok (.iload 4, 2) by decide +kernel)))
    (ok_leaf (ok_callV (C := RX2) (T := TX2) (N := 7) (Mc := M_X2_nodesAt) (show decode cX10_sideFact 46 = .ok (.invokevirtual 120, 3) by decide +kernel) rfl (by decide) (by decide +kernel) rfl rfl wd_443 wd_90 wd_91 wd_58 wd_92 ⟨by decide +kernel, by decide +kernel, by decide +kernel⟩ (by decide)))))
    (ok_node
    (ok_node
    (ok_leaf (ok_ireturn (show decode cX10_sideFact 49 = .ok (.ireturn, 1) by decide +kernel) rfl))
    (ok_leaf (ok_aload_n (show decode cX10_sideFact 50 = .ok (.aload_n 0, 1) by decide +kernel) rfl)))
    (ok_node
    (ok_leaf (ok_getfield (show decode cX10_sideFact 51 = .ok (.getfield 19, 3) by decide +kernel) (Or.inr (fdF_X10 (by decide) wd_361 rfl rfl))))
    (ok_leaf (ok_iload (show decode cX10_sideFact 54 = .ok (.iload 4, 2) by decide +kernel)))))))
    (ok_node
    (ok_node
    (ok_node
    (ok_node
    (ok_leaf (ok_aload_n (show decode cX10_sideFact 56 = .ok (.aload_n 0, 1) by decide +kernel) rfl))
    (ok_leaf (ok_getfield (show decode cX10_sideFact 57 = .ok (.getfield 19, 3) by decide +kernel) (Or.inr (fdF_X10 (by decide) wd_361 rfl rfl)))))
    (ok_node
    (ok_leaf (ok_iload (show decode cX10_sideFact 60 = .ok (.iload 4, 2) by decide +kernel)))
    (ok_leaf (ok_callV (C := RX2) (T := TX2) (N := 7) (Mc := M_X2_nodesAt) (show decode cX10_sideFact 62 = .ok (.invokevirtual 120, 3) by decide +kernel) rfl (by decide) (by decide +kernel) rfl rfl wd_443 wd_90 wd_91 wd_58 wd_92 ⟨by decide +kernel, by decide +kernel, by decide +kernel⟩ (by decide)))))
    (ok_node
    (ok_node
    (ok_leaf (ok_callV (C := RX2) (T := TX2) (N := 7) (Mc := M_X2_flexIn) (show decode cX10_sideFact 65 = .ok (.invokevirtual 230, 3) by decide +kernel) rfl (by decide) (by decide +kernel) rfl rfl wd_525 wd_189 wd_190 wd_58 wd_191 ⟨by decide +kernel, by decide +kernel, by decide +kernel⟩ (by decide)))
    (ok_leaf (ok_ireturn (show decode cX10_sideFact 68 = .ok (.ireturn, 1) by decide +kernel) rfl)))
    (ok_node
    (ok_leaf (ok_aload_n (show decode cX10_sideFact 69 = .ok (.aload_n 0, 1) by decide +kernel) rfl))
    (ok_leaf (ok_getfield (show decode cX10_sideFact 70 = .ok (.getfield 19, 3) by decide +kernel) (Or.inr (fdF_X10 (by decide) wd_361 rfl rfl)))))))
    (ok_node
    (ok_node
    (ok_node
    (ok_leaf (ok_iload (show decode cX10_sideFact 73 = .ok (.iload 4, 2) by decide +kernel)))
    (ok_leaf (ok_callV (C := RX2) (T := TX2) (N := 7) (Mc := M_X2_depthAt) (show decode cX10_sideFact 75 = .ok (.invokevirtual 233, 3) by decide +kernel) rfl (by decide) (by decide +kernel) rfl rfl wd_526 wd_94 wd_95 wd_58 wd_96 ⟨by decide +kernel, by decide +kernel, by decide +kernel⟩ (by decide))))
    (ok_node
    (ok_leaf (ok_ireturn (show decode cX10_sideFact 78 = .ok (.ireturn, 1) by decide +kernel) rfl))
    (ok_leaf (ok_aload_n (show decode cX10_sideFact 79 = .ok (.aload_n 0, 1) by decide +kernel) rfl))))
    (ok_node
    (ok_node
    (ok_leaf (ok_getfield (show decode cX10_sideFact 80 = .ok (.getfield 19, 3) by decide +kernel) (Or.inr (fdF_X10 (by decide) wd_361 rfl rfl))))
    (ok_leaf (ok_iload (show decode cX10_sideFact 83 = .ok (.iload 4, 2) by decide +kernel))))
    (ok_node
    (ok_leaf (ok_callV (C := RX2) (T := TX2) (N := 7) (Mc := M_X2_letterAt) (show decode cX10_sideFact 85 = .ok (.invokevirtual 151, 3) by decide +kernel) rfl (by decide) (by decide +kernel) rfl rfl wd_469 wd_68 wd_69 wd_58 wd_70 ⟨by decide +kernel, by decide +kernel, by decide +kernel⟩ (by decide)))
    (ok_leaf (ok_ireturn (show decode cX10_sideFact 88 = .ok (.ireturn, 1) by decide +kernel) rfl))))))
set_option maxRecDepth 20000 in
set_option maxHeartbeats 4000000 in
theorem ok_X10_arrange {sc : List Int32} : ∀ pc, pOk mtOf 189 M_X10_arrange false sc pc (cd_X10_arrange pc) := by
  unfold cd_X10_arrange
  exact ok_node
    (ok_node
    (ok_leaf (ok_aload_n (show decode cX10_arrange 0 = .ok (.aload_n 0, 1) by decide +kernel) rfl))
    (ok_node
    (ok_leaf (ok_getfield (show decode cX10_arrange 1 = .ok (.getfield 38, 3) by decide +kernel) (Or.inr (fdF_X10 (by decide) wd_375 rfl rfl))))
    (ok_leaf (ok_callV (C := RX6) (T := TX6) (N := 4) (Mc := M_X6_takeApart) (show decode cX10_arrange 4 = .ok (.invokevirtual 236, 3) by decide +kernel) rfl (by decide) (by decide +kernel) rfl rfl wd_527 wd_528 wd_529 wd_174 wd_530 ⟨by decide +kernel, by decide +kernel, by decide +kernel⟩ (by decide)))))
    (ok_node
    (ok_node
    (ok_leaf (ok_aload_n (show decode cX10_arrange 7 = .ok (.aload_n 0, 1) by decide +kernel) rfl))
    (ok_leaf (ok_getfield (show decode cX10_arrange 8 = .ok (.getfield 52, 3) by decide +kernel) (Or.inr (fdF_X10 (by decide) wd_387 rfl rfl)))))
    (ok_node
    (ok_leaf (ok_callV (C := RX3) (T := TX3) (N := 8) (Mc := M_X3_prepare) (show decode cX10_arrange 11 = .ok (.invokevirtual 239, 3) by decide +kernel) rfl (by decide) (by decide +kernel) rfl rfl wd_531 wd_532 wd_533 wd_127 wd_534 ⟨by decide +kernel, by decide +kernel, by decide +kernel⟩ (by decide)))
    (ok_leaf (ok_return (show decode cX10_arrange 14 = .ok (.return_, 1) by decide +kernel) rfl))))
set_option maxRecDepth 20000 in
set_option maxHeartbeats 4000000 in
theorem ok_X10_refuse {sc : List Int32} : ∀ pc, pOk mtOf 189 M_X10_refuse false sc pc (cd_X10_refuse pc) := by
  unfold cd_X10_refuse
  exact ok_node
    (ok_node
    (ok_node
    (ok_node
    (ok_leaf (ok_iload_n (show decode cX10_refuse 0 = .ok (.iload_n 1, 1) by decide +kernel) rfl))
    (ok_node
    (ok_leaf (ok_bipush (show decode cX10_refuse 1 = .ok (.bipush (-2), 2) by decide +kernel) (by decide +kernel)))
    (ok_leaf (ok_icmp_ne (show decode cX10_refuse 3 = .ok (.if_icmp .ne 16, 3) by decide +kernel) (by decide +kernel)))))
    (ok_node
    (ok_node
    (ok_leaf (ok_aload_n (show decode cX10_refuse 6 = .ok (.aload_n 0, 1) by decide +kernel) rfl))
    (ok_leaf (ok_dup (show decode cX10_refuse 7 = .ok (.dup, 1) by decide +kernel))))
    (ok_node
    (ok_leaf (ok_getfield (show decode cX10_refuse 8 = .ok (.getfield 217, 3) by decide +kernel) (Or.inl (fd_X10 (by decide) wd_521 rfl rfl))))
    (ok_leaf (ok_iconst (show decode cX10_refuse 11 = .ok (.iconst 1, 1) by decide +kernel) (by decide +kernel))))))
    (ok_node
    (ok_node
    (ok_leaf (ok_iadd (show decode cX10_refuse 12 = .ok (.iadd, 1) by decide +kernel)))
    (ok_node
    (ok_leaf (ok_putI (show decode cX10_refuse 13 = .ok (.putfield 217, 3) by decide +kernel) (Or.inl (fd_X10 (by decide) wd_521 rfl rfl)) rfl))
    (ok_leaf (ok_goto (show decode cX10_refuse 16 = .ok (.goto 32, 3) by decide +kernel) (by decide +kernel)))))
    (ok_node
    (ok_node
    (ok_leaf (ok_iload_n (show decode cX10_refuse 19 = .ok (.iload_n 1, 1) by decide +kernel) rfl))
    (ok_leaf (ok_bipush (show decode cX10_refuse 20 = .ok (.bipush (-3), 2) by decide +kernel) (by decide +kernel))))
    (ok_node
    (ok_leaf (ok_icmp_ne (show decode cX10_refuse 22 = .ok (.if_icmp .ne 16, 3) by decide +kernel) (by decide +kernel)))
    (ok_leaf (ok_aload_n (show decode cX10_refuse 25 = .ok (.aload_n 0, 1) by decide +kernel) rfl))))))
    (ok_node
    (ok_node
    (ok_node
    (ok_leaf (ok_dup (show decode cX10_refuse 26 = .ok (.dup, 1) by decide +kernel)))
    (ok_node
    (ok_leaf (ok_getfield (show decode cX10_refuse 27 = .ok (.getfield 221, 3) by decide +kernel) (Or.inl (fd_X10 (by decide) wd_522 rfl rfl))))
    (ok_leaf (ok_iconst (show decode cX10_refuse 30 = .ok (.iconst 1, 1) by decide +kernel) (by decide +kernel)))))
    (ok_node
    (ok_node
    (ok_leaf (ok_iadd (show decode cX10_refuse 31 = .ok (.iadd, 1) by decide +kernel)))
    (ok_leaf (ok_putI (show decode cX10_refuse 32 = .ok (.putfield 221, 3) by decide +kernel) (Or.inl (fd_X10 (by decide) wd_522 rfl rfl)) rfl)))
    (ok_node
    (ok_leaf (ok_goto (show decode cX10_refuse 35 = .ok (.goto 13, 3) by decide +kernel) (by decide +kernel)))
    (ok_leaf (ok_aload_n (show decode cX10_refuse 38 = .ok (.aload_n 0, 1) by decide +kernel) rfl)))))
    (ok_node
    (ok_node
    (ok_leaf (ok_dup (show decode cX10_refuse 39 = .ok (.dup, 1) by decide +kernel)))
    (ok_node
    (ok_leaf (ok_getfield (show decode cX10_refuse 40 = .ok (.getfield 224, 3) by decide +kernel) (Or.inl (fd_X10 (by decide) wd_523 rfl rfl))))
    (ok_leaf (ok_iconst (show decode cX10_refuse 43 = .ok (.iconst 1, 1) by decide +kernel) (by decide +kernel)))))
    (ok_node
    (ok_node
    (ok_leaf (ok_iadd (show decode cX10_refuse 44 = .ok (.iadd, 1) by decide +kernel)))
    (ok_leaf (ok_putI (show decode cX10_refuse 45 = .ok (.putfield 224, 3) by decide +kernel) (Or.inl (fd_X10 (by decide) wd_523 rfl rfl)) rfl)))
    (ok_node
    (ok_leaf (ok_iload_n (show decode cX10_refuse 48 = .ok (.iload_n 1, 1) by decide +kernel) rfl))
    (ok_leaf (ok_ireturn (show decode cX10_refuse 49 = .ok (.ireturn, 1) by decide +kernel) rfl))))))
set_option maxRecDepth 20000 in
set_option maxHeartbeats 4000000 in
theorem ok_X10_isSide {sc : List Int32} : ∀ pc, pOk mtOf 189 M_X10_isSide false sc pc (cd_X10_isSide pc) := by
  unfold cd_X10_isSide
  exact ok_node
    (ok_node
    (ok_node
    (ok_leaf (ok_iload_n (show decode cX10_isSide 0 = .ok (.iload_n 0, 1) by decide +kernel) rfl))
    (ok_leaf (ok_if_eq (show decode cX10_isSide 1 = .ok (.ifCond .eq 8, 3) by decide +kernel) (by decide +kernel))))
    (ok_node
    (ok_leaf (ok_iload_n (show decode cX10_isSide 4 = .ok (.iload_n 0, 1) by decide +kernel) rfl))
    (ok_leaf (ok_iconst (show decode cX10_isSide 5 = .ok (.iconst 1, 1) by decide +kernel) (by decide +kernel)))))
    (ok_node
    (ok_node
    (ok_leaf (ok_icmp_ne (show decode cX10_isSide 6 = .ok (.if_icmp .ne 7, 3) by decide +kernel) (by decide +kernel)))
    (ok_leaf (ok_iconst (show decode cX10_isSide 9 = .ok (.iconst 1, 1) by decide +kernel) (by decide +kernel))))
    (ok_node
    (ok_leaf (ok_goto (show decode cX10_isSide 10 = .ok (.goto 4, 3) by decide +kernel) (by decide +kernel)))
    (ok_node
    (ok_leaf (ok_iconst (show decode cX10_isSide 13 = .ok (.iconst 0, 1) by decide +kernel) (by decide +kernel)))
    (ok_leaf (ok_zreturn (show decode cX10_isSide 14 = .ok (.ireturn, 1) by decide +kernel) rfl)))))
set_option maxRecDepth 20000 in
set_option maxHeartbeats 4000000 in
theorem ok_X11_init {sc : List Int32} : ∀ pc, pOk mtOf 189 M_X11_init false sc pc (cd_X11_init pc) := by
  unfold cd_X11_init
  exact ok_node
    (ok_node
    (ok_node
    (ok_node
    (ok_node
    (ok_node
    (ok_node
    (ok_leaf (ok_aload_n (show decode cX11_init 0 = .ok (.aload_n 0, 1) by decide +kernel) rfl))
    (ok_leaf (ok_obj (show decode cX11_init 1 = .ok (.invokespecial 1, 3) by decide +kernel) wd_535 wd_1 wd_2)))
    (ok_node
    (ok_leaf (ok_aload_n (show decode cX11_init 4 = .ok (.aload_n 0, 1) by decide +kernel) rfl))
    (ok_leaf (ok_bipush (show decode cX11_init 5 = .ok (.bipush 49, 2) by decide +kernel) (by decide +kernel)))))
    (ok_node
    (ok_node
    (ok_leaf (ok_newarray (show decode cX11_init 7 = .ok (.newarray .int, 2) by decide +kernel) wd_3))
    (ok_leaf (ok_putR (show decode cX11_init 9 = .ok (.putfield 7, 3) by decide +kernel) (Or.inr ⟨fdF_X11 (by decide) wd_536 rfl rfl, rfl, fun r hr => by cases hr; rfl⟩) (Or.inr ⟨_, rfl⟩))))
    (ok_node
    (ok_leaf (ok_aload_n (show decode cX11_init 12 = .ok (.aload_n 0, 1) by decide +kernel) rfl))
    (ok_node
    (ok_leaf (ok_bipush (show decode cX11_init 13 = .ok (.bipush 49, 2) by decide +kernel) (by decide +kernel)))
    (ok_leaf (ok_newarray (show decode cX11_init 15 = .ok (.newarray .int, 2) by decide +kernel) wd_3))))))
    (ok_node
    (ok_node
    (ok_node
    (ok_leaf (ok_putR (show decode cX11_init 17 = .ok (.putfield 13, 3) by decide +kernel) (Or.inr ⟨fdF_X11 (by decide) wd_537 rfl rfl, rfl, fun r hr => by cases hr; rfl⟩) (Or.inr ⟨_, rfl⟩)))
    (ok_leaf (ok_aload_n (show decode cX11_init 20 = .ok (.aload_n 0, 1) by decide +kernel) rfl)))
    (ok_node
    (ok_leaf (ok_sipush (show decode cX11_init 21 = .ok (.sipush 245, 3) by decide +kernel) (by decide +kernel)))
    (ok_leaf (ok_newarray (show decode cX11_init 24 = .ok (.newarray .int, 2) by decide +kernel) wd_3))))
    (ok_node
    (ok_node
    (ok_leaf (ok_putR (show decode cX11_init 26 = .ok (.putfield 16, 3) by decide +kernel) (Or.inr ⟨fdF_X11 (by decide) wd_538 rfl rfl, rfl, fun r hr => by cases hr; rfl⟩) (Or.inr ⟨_, rfl⟩)))
    (ok_leaf (ok_aload_n (show decode cX11_init 29 = .ok (.aload_n 0, 1) by decide +kernel) rfl)))
    (ok_node
    (ok_leaf (ok_iconst (show decode cX11_init 30 = .ok (.iconst 3, 1) by decide +kernel) (by decide +kernel)))
    (ok_node
    (ok_leaf (ok_newarray (show decode cX11_init 31 = .ok (.newarray .int, 2) by decide +kernel) wd_3))
    (ok_leaf (ok_putR (show decode cX11_init 33 = .ok (.putfield 19, 3) by decide +kernel) (Or.inr ⟨fdF_X11 (by decide) wd_539 rfl rfl, rfl, fun r hr => by cases hr; rfl⟩) (Or.inr ⟨_, rfl⟩))))))))
    (ok_node
    (ok_node
    (ok_node
    (ok_node
    (ok_leaf (ok_aload_n (show decode cX11_init 36 = .ok (.aload_n 0, 1) by decide +kernel) rfl))
    (ok_leaf (ok_bipush (show decode cX11_init 37 = .ok (.bipush 120, 2) by decide +kernel) (by decide +kernel))))
    (ok_node
    (ok_leaf (ok_newarray (show decode cX11_init 39 = .ok (.newarray .int, 2) by decide +kernel) wd_3))
    (ok_leaf (ok_putR (show decode cX11_init 41 = .ok (.putfield 22, 3) by decide +kernel) (Or.inr ⟨fdF_X11 (by decide) wd_540 rfl rfl, rfl, fun r hr => by cases hr; rfl⟩) (Or.inr ⟨_, rfl⟩)))))
    (ok_node
    (ok_node
    (ok_leaf (ok_aload_n (show decode cX11_init 44 = .ok (.aload_n 0, 1) by decide +kernel) rfl))
    (ok_leaf (ok_sipush (show decode cX11_init 45 = .ok (.sipush 1822, 3) by decide +kernel) (by decide +kernel))))
    (ok_node
    (ok_leaf (ok_newarray (show decode cX11_init 48 = .ok (.newarray .int, 2) by decide +kernel) wd_3))
    (ok_node
    (ok_leaf (ok_putR (show decode cX11_init 50 = .ok (.putfield 25, 3) by decide +kernel) (Or.inr ⟨fdF_X11 (by decide) wd_541 rfl rfl, rfl, fun r hr => by cases hr; rfl⟩) (Or.inr ⟨_, rfl⟩)))
    (ok_leaf (ok_aload_n (show decode cX11_init 53 = .ok (.aload_n 0, 1) by decide +kernel) rfl))))))
    (ok_node
    (ok_node
    (ok_node
    (ok_leaf (ok_bipush (show decode cX11_init 54 = .ok (.bipush 22, 2) by decide +kernel) (by decide +kernel)))
    (ok_leaf (ok_newarray (show decode cX11_init 56 = .ok (.newarray .int, 2) by decide +kernel) wd_3)))
    (ok_node
    (ok_leaf (ok_putR (show decode cX11_init 58 = .ok (.putfield 28, 3) by decide +kernel) (Or.inr ⟨fdF_X11 (by decide) wd_542 rfl rfl, rfl, fun r hr => by cases hr; rfl⟩) (Or.inr ⟨_, rfl⟩)))
    (ok_leaf (ok_aload_n (show decode cX11_init 61 = .ok (.aload_n 0, 1) by decide +kernel) rfl))))
    (ok_node
    (ok_node
    (ok_leaf (ok_bipush (show decode cX11_init 62 = .ok (.bipush 41, 2) by decide +kernel) (by decide +kernel)))
    (ok_leaf (ok_newarray (show decode cX11_init 64 = .ok (.newarray .int, 2) by decide +kernel) wd_3)))
    (ok_node
    (ok_leaf (ok_putR (show decode cX11_init 66 = .ok (.putfield 31, 3) by decide +kernel) (Or.inr ⟨fdF_X11 (by decide) wd_543 rfl rfl, rfl, fun r hr => by cases hr; rfl⟩) (Or.inr ⟨_, rfl⟩)))
    (ok_node
    (ok_leaf (ok_aload_n (show decode cX11_init 69 = .ok (.aload_n 0, 1) by decide +kernel) rfl))
    (ok_leaf (ok_sipush (show decode cX11_init 70 = .ok (.sipush 200, 3) by decide +kernel) (by decide +kernel)))))))))
    (ok_node
    (ok_node
    (ok_node
    (ok_node
    (ok_node
    (ok_leaf (ok_newarray (show decode cX11_init 73 = .ok (.newarray .int, 2) by decide +kernel) wd_3))
    (ok_leaf (ok_putR (show decode cX11_init 75 = .ok (.putfield 34, 3) by decide +kernel) (Or.inr ⟨fdF_X11 (by decide) wd_544 rfl rfl, rfl, fun r hr => by cases hr; rfl⟩) (Or.inr ⟨_, rfl⟩))))
    (ok_node
    (ok_leaf (ok_aload_n (show decode cX11_init 78 = .ok (.aload_n 0, 1) by decide +kernel) rfl))
    (ok_leaf (ok_bipush (show decode cX11_init 79 = .ok (.bipush 24, 2) by decide +kernel) (by decide +kernel)))))
    (ok_node
    (ok_node
    (ok_leaf (ok_newarray (show decode cX11_init 81 = .ok (.newarray .int, 2) by decide +kernel) wd_3))
    (ok_leaf (ok_putR (show decode cX11_init 83 = .ok (.putfield 37, 3) by decide +kernel) (Or.inr ⟨fdF_X11 (by decide) wd_545 rfl rfl, rfl, fun r hr => by cases hr; rfl⟩) (Or.inr ⟨_, rfl⟩))))
    (ok_node
    (ok_leaf (ok_aload_n (show decode cX11_init 86 = .ok (.aload_n 0, 1) by decide +kernel) rfl))
    (ok_node
    (ok_leaf (ok_bipush (show decode cX11_init 87 = .ok (.bipush 24, 2) by decide +kernel) (by decide +kernel)))
    (ok_leaf (ok_newarray (show decode cX11_init 89 = .ok (.newarray .int, 2) by decide +kernel) wd_3))))))
    (ok_node
    (ok_node
    (ok_node
    (ok_leaf (ok_putR (show decode cX11_init 91 = .ok (.putfield 40, 3) by decide +kernel) (Or.inr ⟨fdF_X11 (by decide) wd_546 rfl rfl, rfl, fun r hr => by cases hr; rfl⟩) (Or.inr ⟨_, rfl⟩)))
    (ok_leaf (ok_aload_n (show decode cX11_init 94 = .ok (.aload_n 0, 1) by decide +kernel) rfl)))
    (ok_node
    (ok_leaf (ok_bipush (show decode cX11_init 95 = .ok (.bipush 6, 2) by decide +kernel) (by decide +kernel)))
    (ok_leaf (ok_newarray (show decode cX11_init 97 = .ok (.newarray .int, 2) by decide +kernel) wd_3))))
    (ok_node
    (ok_node
    (ok_leaf (ok_putR (show decode cX11_init 99 = .ok (.putfield 43, 3) by decide +kernel) (Or.inr ⟨fdF_X11 (by decide) wd_547 rfl rfl, rfl, fun r hr => by cases hr; rfl⟩) (Or.inr ⟨_, rfl⟩)))
    (ok_leaf (ok_aload_n (show decode cX11_init 102 = .ok (.aload_n 0, 1) by decide +kernel) rfl)))
    (ok_node
    (ok_leaf (ok_bipush (show decode cX11_init 103 = .ok (.bipush 6, 2) by decide +kernel) (by decide +kernel)))
    (ok_node
    (ok_leaf (ok_newarray (show decode cX11_init 105 = .ok (.newarray .int, 2) by decide +kernel) wd_3))
    (ok_leaf (ok_putR (show decode cX11_init 107 = .ok (.putfield 46, 3) by decide +kernel) (Or.inr ⟨fdF_X11 (by decide) wd_548 rfl rfl, rfl, fun r hr => by cases hr; rfl⟩) (Or.inr ⟨_, rfl⟩))))))))
    (ok_node
    (ok_node
    (ok_node
    (ok_node
    (ok_leaf (ok_aload_n (show decode cX11_init 110 = .ok (.aload_n 0, 1) by decide +kernel) rfl))
    (ok_leaf (ok_bipush (show decode cX11_init 111 = .ok (.bipush 6, 2) by decide +kernel) (by decide +kernel))))
    (ok_node
    (ok_leaf (ok_newarray (show decode cX11_init 113 = .ok (.newarray .int, 2) by decide +kernel) wd_3))
    (ok_leaf (ok_putR (show decode cX11_init 115 = .ok (.putfield 49, 3) by decide +kernel) (Or.inr ⟨fdF_X11 (by decide) wd_549 rfl rfl, rfl, fun r hr => by cases hr; rfl⟩) (Or.inr ⟨_, rfl⟩)))))
    (ok_node
    (ok_node
    (ok_leaf (ok_aload_n (show decode cX11_init 118 = .ok (.aload_n 0, 1) by decide +kernel) rfl))
    (ok_leaf (ok_sipush (show decode cX11_init 119 = .ok (.sipush 240, 3) by decide +kernel) (by decide +kernel))))
    (ok_node
    (ok_leaf (ok_newarray (show decode cX11_init 122 = .ok (.newarray .int, 2) by decide +kernel) wd_3))
    (ok_node
    (ok_leaf (ok_putR (show decode cX11_init 124 = .ok (.putfield 52, 3) by decide +kernel) (Or.inr ⟨fdF_X11 (by decide) wd_550 rfl rfl, rfl, fun r hr => by cases hr; rfl⟩) (Or.inr ⟨_, rfl⟩)))
    (ok_leaf (ok_aload_n (show decode cX11_init 127 = .ok (.aload_n 0, 1) by decide +kernel) rfl))))))
    (ok_node
    (ok_node
    (ok_node
    (ok_leaf (ok_bipush (show decode cX11_init 128 = .ok (.bipush 40, 2) by decide +kernel) (by decide +kernel)))
    (ok_leaf (ok_newarray (show decode cX11_init 130 = .ok (.newarray .int, 2) by decide +kernel) wd_3)))
    (ok_node
    (ok_leaf (ok_putR (show decode cX11_init 132 = .ok (.putfield 55, 3) by decide +kernel) (Or.inr ⟨fdF_X11 (by decide) wd_551 rfl rfl, rfl, fun r hr => by cases hr; rfl⟩) (Or.inr ⟨_, rfl⟩)))
    (ok_node
    (ok_leaf (ok_aload_n (show decode cX11_init 135 = .ok (.aload_n 0, 1) by decide +kernel) rfl))
    (ok_leaf (ok_bipush (show decode cX11_init 136 = .ok (.bipush 48, 2) by decide +kernel) (by decide +kernel))))))
    (ok_node
    (ok_node
    (ok_leaf (ok_newarray (show decode cX11_init 138 = .ok (.newarray .int, 2) by decide +kernel) wd_3))
    (ok_leaf (ok_putR (show decode cX11_init 140 = .ok (.putfield 58, 3) by decide +kernel) (Or.inr ⟨fdF_X11 (by decide) wd_552 rfl rfl, rfl, fun r hr => by cases hr; rfl⟩) (Or.inr ⟨_, rfl⟩))))
    (ok_node
    (ok_leaf (ok_aload_n (show decode cX11_init 143 = .ok (.aload_n 0, 1) by decide +kernel) rfl))
    (ok_node
    (ok_leaf (ok_sipush (show decode cX11_init 144 = .ok (.sipush 300, 3) by decide +kernel) (by decide +kernel)))
    (ok_leaf (ok_newarray (show decode cX11_init 147 = .ok (.newarray .int, 2) by decide +kernel) wd_3)))))))))
    (ok_node
    (ok_node
    (ok_node
    (ok_node
    (ok_node
    (ok_node
    (ok_leaf (ok_putR (show decode cX11_init 149 = .ok (.putfield 61, 3) by decide +kernel) (Or.inr ⟨fdF_X11 (by decide) wd_553 rfl rfl, rfl, fun r hr => by cases hr; rfl⟩) (Or.inr ⟨_, rfl⟩)))
    (ok_leaf (ok_aload_n (show decode cX11_init 152 = .ok (.aload_n 0, 1) by decide +kernel) rfl)))
    (ok_node
    (ok_leaf (ok_sipush (show decode cX11_init 153 = .ok (.sipush 300, 3) by decide +kernel) (by decide +kernel)))
    (ok_leaf (ok_newarray (show decode cX11_init 156 = .ok (.newarray .int, 2) by decide +kernel) wd_3))))
    (ok_node
    (ok_node
    (ok_leaf (ok_putR (show decode cX11_init 158 = .ok (.putfield 64, 3) by decide +kernel) (Or.inr ⟨fdF_X11 (by decide) wd_554 rfl rfl, rfl, fun r hr => by cases hr; rfl⟩) (Or.inr ⟨_, rfl⟩)))
    (ok_leaf (ok_aload_n (show decode cX11_init 161 = .ok (.aload_n 0, 1) by decide +kernel) rfl)))
    (ok_node
    (ok_leaf (ok_sipush (show decode cX11_init 162 = .ok (.sipush 400, 3) by decide +kernel) (by decide +kernel)))
    (ok_node
    (ok_leaf (ok_newarray (show decode cX11_init 165 = .ok (.newarray .int, 2) by decide +kernel) wd_3))
    (ok_leaf (ok_putR (show decode cX11_init 167 = .ok (.putfield 67, 3) by decide +kernel) (Or.inr ⟨fdF_X11 (by decide) wd_555 rfl rfl, rfl, fun r hr => by cases hr; rfl⟩) (Or.inr ⟨_, rfl⟩)))))))
    (ok_node
    (ok_node
    (ok_node
    (ok_leaf (ok_iconst (show decode cX11_init 170 = .ok (.iconst 0, 1) by decide +kernel) (by decide +kernel)))
    (ok_leaf (ok_istore_n (show decode cX11_init 171 = .ok (.istore_n 1, 1) by decide +kernel) rfl)))
    (ok_node
    (ok_leaf (ok_iconst (show decode cX11_init 172 = .ok (.iconst 0, 1) by decide +kernel) (by decide +kernel)))
    (ok_leaf (ok_istore_n (show decode cX11_init 173 = .ok (.istore_n 2, 1) by decide +kernel) rfl))))
    (ok_node
    (ok_node
    (ok_leaf (ok_iload_n (show decode cX11_init 174 = .ok (.iload_n 2, 1) by decide +kernel) rfl))
    (ok_leaf (ok_iconst (show decode cX11_init 175 = .ok (.iconst 3, 1) by decide +kernel) (by decide +kernel))))
    (ok_node
    (ok_leaf (ok_icmp_ge (show decode cX11_init 176 = .ok (.if_icmp .ge 106, 3) by decide +kernel) (by decide +kernel)))
    (ok_node
    (ok_leaf (ok_iconst (show decode cX11_init 179 = .ok (.iconst 1, 1) by decide +kernel) (by decide +kernel)))
    (ok_leaf (ok_istore_n (show decode cX11_init 180 = .ok (.istore_n 3, 1) by decide +kernel) rfl)))))))
    (ok_node
    (ok_node
    (ok_node
    (ok_node
    (ok_leaf (ok_iconst (show decode cX11_init 181 = .ok (.iconst 1, 1) by decide +kernel) (by decide +kernel)))
    (ok_leaf (ok_istore (show decode cX11_init 182 = .ok (.istore 4, 2) by decide +kernel))))
    (ok_node
    (ok_leaf (ok_iload (show decode cX11_init 184 = .ok (.iload 4, 2) by decide +kernel)))
    (ok_leaf (ok_bipush (show decode cX11_init 186 = .ok (.bipush 6, 2) by decide +kernel) (by decide +kernel)))))
    (ok_node
    (ok_node
    (ok_leaf (ok_icmp_gt (show decode cX11_init 188 = .ok (.if_icmp .gt 75, 3) by decide +kernel) (by decide +kernel)))
    (ok_leaf (ok_aload_n (show decode cX11_init 191 = .ok (.aload_n 0, 1) by decide +kernel) rfl)))
    (ok_node
    (ok_leaf (ok_getfield (show decode cX11_init 192 = .ok (.getfield 28, 3) by decide +kernel) (Or.inr (fdF_X11 (by decide) wd_542 rfl rfl))))
    (ok_node
    (ok_leaf (ok_bipush (show decode cX11_init 195 = .ok (.bipush 7, 2) by decide +kernel) (by decide +kernel)))
    (ok_leaf (ok_iload_n (show decode cX11_init 197 = .ok (.iload_n 2, 1) by decide +kernel) rfl))))))
    (ok_node
    (ok_node
    (ok_node
    (ok_leaf (ok_imul (show decode cX11_init 198 = .ok (.imul, 1) by decide +kernel)))
    (ok_leaf (ok_iload (show decode cX11_init 199 = .ok (.iload 4, 2) by decide +kernel))))
    (ok_node
    (ok_leaf (ok_iadd (show decode cX11_init 201 = .ok (.iadd, 1) by decide +kernel)))
    (ok_node
    (ok_leaf (ok_iconst (show decode cX11_init 202 = .ok (.iconst 1, 1) by decide +kernel) (by decide +kernel)))
    (ok_leaf (ok_isub (show decode cX11_init 203 = .ok (.isub, 1) by decide +kernel))))))
    (ok_node
    (ok_node
    (ok_leaf (ok_iload_n (show decode cX11_init 204 = .ok (.iload_n 1, 1) by decide +kernel) rfl))
    (ok_leaf (ok_iastore (show decode cX11_init 205 = .ok (.iastore, 1) by decide +kernel))))
    (ok_node
    (ok_leaf (ok_iload_n (show decode cX11_init 206 = .ok (.iload_n 3, 1) by decide +kernel) rfl))
    (ok_node
    (ok_leaf (ok_bipush (show decode cX11_init 207 = .ok (.bipush 6, 2) by decide +kernel) (by decide +kernel)))
    (ok_leaf (ok_imul (show decode cX11_init 209 = .ok (.imul, 1) by decide +kernel)))))))))
    (ok_node
    (ok_node
    (ok_node
    (ok_node
    (ok_node
    (ok_leaf (ok_istore_n (show decode cX11_init 210 = .ok (.istore_n 3, 1) by decide +kernel) rfl))
    (ok_leaf (ok_iconst (show decode cX11_init 211 = .ok (.iconst 0, 1) by decide +kernel) (by decide +kernel))))
    (ok_node
    (ok_leaf (ok_istore (show decode cX11_init 212 = .ok (.istore 5, 2) by decide +kernel)))
    (ok_leaf (ok_iload (show decode cX11_init 214 = .ok (.iload 5, 2) by decide +kernel)))))
    (ok_node
    (ok_node
    (ok_leaf (ok_iload_n (show decode cX11_init 216 = .ok (.iload_n 3, 1) by decide +kernel) rfl))
    (ok_leaf (ok_icmp_ge (show decode cX11_init 217 = .ok (.if_icmp .ge 40, 3) by decide +kernel) (by decide +kernel))))
    (ok_node
    (ok_leaf (ok_iload (show decode cX11_init 220 = .ok (.iload 5, 2) by decide +kernel)))
    (ok_node
    (ok_leaf (ok_iload (show decode cX11_init 222 = .ok (.iload 4, 2) by decide +kernel)))
    (ok_leaf (ok_callS (Mc := M_X11_signsOf) (show decode cX11_init 224 = .ok (.invokestatic 70, 3) by decide +kernel) rfl (by decide) (by decide +kernel) wd_556 wd_557 wd_558 wd_559 ⟨by decide +kernel, by decide +kernel, by decide +kernel⟩ (by decide)))))))
    (ok_node
    (ok_node
    (ok_node
    (ok_leaf (ok_istore (show decode cX11_init 227 = .ok (.istore 6, 2) by decide +kernel)))
    (ok_leaf (ok_iload (show decode cX11_init 229 = .ok (.iload 6, 2) by decide +kernel))))
    (ok_node
    (ok_leaf (ok_iload (show decode cX11_init 231 = .ok (.iload 4, 2) by decide +kernel)))
    (ok_leaf (ok_iload_n (show decode cX11_init 233 = .ok (.iload_n 2, 1) by decide +kernel) rfl))))
    (ok_node
    (ok_node
    (ok_leaf (ok_callS (Mc := M_X11_isBody) (show decode cX11_init 234 = .ok (.invokestatic 74, 3) by decide +kernel) rfl (by decide) (by decide +kernel) wd_560 wd_561 wd_558 wd_562 ⟨by decide +kernel, by decide +kernel, by decide +kernel⟩ (by decide)))
    (ok_leaf (ok_if_eq (show decode cX11_init 237 = .ok (.ifCond .eq 14, 3) by decide +kernel) (by decide +kernel))))
    (ok_node
    (ok_leaf (ok_aload_n (show decode cX11_init 240 = .ok (.aload_n 0, 1) by decide +kernel) rfl))
    (ok_node
    (ok_leaf (ok_getfield (show decode cX11_init 241 = .ok (.getfield 25, 3) by decide +kernel) (Or.inr (fdF_X11 (by decide) wd_541 rfl rfl))))
    (ok_leaf (ok_iload_n (show decode cX11_init 244 = .ok (.iload_n 1, 1) by decide +kernel) rfl)))))))
    (ok_node
    (ok_node
    (ok_node
    (ok_node
    (ok_leaf (ok_iload (show decode cX11_init 245 = .ok (.iload 6, 2) by decide +kernel)))
    (ok_leaf (ok_iastore (show decode cX11_init 247 = .ok (.iastore, 1) by decide +kernel))))
    (ok_node
    (ok_leaf (ok_iinc (show decode cX11_init 248 = .ok (.iinc 1 1, 3) by decide +kernel) (by decide +kernel)))
    (ok_leaf (ok_iinc (show decode cX11_init 251 = .ok (.iinc 5 1, 3) by decide +kernel) (by decide +kernel)))))
    (ok_node
    (ok_node
    (ok_leaf (ok_goto (show decode cX11_init 254 = .ok (.goto (-40), 3) by decide +kernel) (by decide +kernel)))
    (ok_leaf (ok_iinc (show decode cX11_init 257 = .ok (.iinc 4 1, 3) by decide +kernel) (by decide +kernel))))
    (ok_node
    (ok_leaf (ok_goto (show decode cX11_init 260 = .ok (.goto (-76), 3) by decide +kernel) (by decide +kernel)))
    (ok_node
    (ok_leaf (ok_aload_n (show decode cX11_init 263 = .ok (.aload_n 0, 1) by decide +kernel) rfl))
    (ok_leaf (ok_getfield (show decode cX11_init 264 = .ok (.getfield 28, 3) by decide +kernel) (Or.inr (fdF_X11 (by decide) wd_542 rfl rfl))))))))
    (ok_node
    (ok_node
    (ok_node
    (ok_leaf (ok_bipush (show decode cX11_init 267 = .ok (.bipush 7, 2) by decide +kernel) (by decide +kernel)))
    (ok_leaf (ok_iload_n (show decode cX11_init 269 = .ok (.iload_n 2, 1) by decide +kernel) rfl)))
    (ok_node
    (ok_leaf (ok_imul (show decode cX11_init 270 = .ok (.imul, 1) by decide +kernel)))
    (ok_node
    (ok_leaf (ok_bipush (show decode cX11_init 271 = .ok (.bipush 6, 2) by decide +kernel) (by decide +kernel)))
    (ok_leaf (ok_iadd (show decode cX11_init 273 = .ok (.iadd, 1) by decide +kernel))))))
    (ok_node
    (ok_node
    (ok_leaf (ok_iload_n (show decode cX11_init 274 = .ok (.iload_n 1, 1) by decide +kernel) rfl))
    (ok_leaf (ok_iastore (show decode cX11_init 275 = .ok (.iastore, 1) by decide +kernel))))
    (ok_node
    (ok_leaf (ok_iinc (show decode cX11_init 276 = .ok (.iinc 2 1, 3) by decide +kernel) (by decide +kernel)))
    (ok_node
    (ok_leaf (ok_goto (show decode cX11_init 279 = .ok (.goto (-105), 3) by decide +kernel) (by decide +kernel)))
    (ok_leaf (ok_return (show decode cX11_init 282 = .ok (.return_, 1) by decide +kernel) rfl)))))))))
set_option maxRecDepth 20000 in
set_option maxHeartbeats 4000000 in
theorem ok_X11_bad {sc : List Int32} : ∀ pc, pOk mtOf 189 M_X11_bad false sc pc (cd_X11_bad pc) := by
  unfold cd_X11_bad
  exact ok_node
    (ok_node
    (ok_node
    (ok_leaf (ok_aload_n (show decode cX11_bad 0 = .ok (.aload_n 0, 1) by decide +kernel) rfl))
    (ok_leaf (ok_getfield (show decode cX11_bad 1 = .ok (.getfield 19, 3) by decide +kernel) (Or.inr (fdF_X11 (by decide) wd_539 rfl rfl)))))
    (ok_node
    (ok_leaf (ok_iconst (show decode cX11_bad 4 = .ok (.iconst 0, 1) by decide +kernel) (by decide +kernel)))
    (ok_node
    (ok_leaf (ok_dup2 (show decode cX11_bad 5 = .ok (.dup2, 1) by decide +kernel)))
    (ok_leaf (ok_iaload (show decode cX11_bad 6 = .ok (.iaload, 1) by decide +kernel))))))
    (ok_node
    (ok_node
    (ok_leaf (ok_iconst (show decode cX11_bad 7 = .ok (.iconst 1, 1) by decide +kernel) (by decide +kernel)))
    (ok_leaf (ok_iadd (show decode cX11_bad 8 = .ok (.iadd, 1) by decide +kernel))))
    (ok_node
    (ok_leaf (ok_iastore (show decode cX11_bad 9 = .ok (.iastore, 1) by decide +kernel)))
    (ok_node
    (ok_leaf (ok_bipush (show decode cX11_bad 10 = .ok (.bipush (-2), 2) by decide +kernel) (by decide +kernel)))
    (ok_leaf (ok_ireturn (show decode cX11_bad 12 = .ok (.ireturn, 1) by decide +kernel) rfl)))))
set_option maxRecDepth 20000 in
set_option maxHeartbeats 4000000 in
theorem ok_X11_no {sc : List Int32} : ∀ pc, pOk mtOf 189 M_X11_no false sc pc (cd_X11_no pc) := by
  unfold cd_X11_no
  exact ok_node
    (ok_node
    (ok_node
    (ok_leaf (ok_aload_n (show decode cX11_no 0 = .ok (.aload_n 0, 1) by decide +kernel) rfl))
    (ok_leaf (ok_getfield (show decode cX11_no 1 = .ok (.getfield 19, 3) by decide +kernel) (Or.inr (fdF_X11 (by decide) wd_539 rfl rfl)))))
    (ok_node
    (ok_leaf (ok_iconst (show decode cX11_no 4 = .ok (.iconst 1, 1) by decide +kernel) (by decide +kernel)))
    (ok_node
    (ok_leaf (ok_dup2 (show decode cX11_no 5 = .ok (.dup2, 1) by decide +kernel)))
    (ok_leaf (ok_iaload (show decode cX11_no 6 = .ok (.iaload, 1) by decide +kernel))))))
    (ok_node
    (ok_node
    (ok_leaf (ok_iconst (show decode cX11_no 7 = .ok (.iconst 1, 1) by decide +kernel) (by decide +kernel)))
    (ok_leaf (ok_iadd (show decode cX11_no 8 = .ok (.iadd, 1) by decide +kernel))))
    (ok_node
    (ok_leaf (ok_iastore (show decode cX11_no 9 = .ok (.iastore, 1) by decide +kernel)))
    (ok_node
    (ok_leaf (ok_bipush (show decode cX11_no 10 = .ok (.bipush (-3), 2) by decide +kernel) (by decide +kernel)))
    (ok_leaf (ok_ireturn (show decode cX11_no 12 = .ok (.ireturn, 1) by decide +kernel) rfl)))))
set_option maxRecDepth 20000 in
set_option maxHeartbeats 4000000 in
theorem ok_X11_full {sc : List Int32} : ∀ pc, pOk mtOf 189 M_X11_full false sc pc (cd_X11_full pc) := by
  unfold cd_X11_full
  exact ok_node
    (ok_node
    (ok_node
    (ok_leaf (ok_aload_n (show decode cX11_full 0 = .ok (.aload_n 0, 1) by decide +kernel) rfl))
    (ok_leaf (ok_getfield (show decode cX11_full 1 = .ok (.getfield 19, 3) by decide +kernel) (Or.inr (fdF_X11 (by decide) wd_539 rfl rfl)))))
    (ok_node
    (ok_leaf (ok_iconst (show decode cX11_full 4 = .ok (.iconst 2, 1) by decide +kernel) (by decide +kernel)))
    (ok_node
    (ok_leaf (ok_dup2 (show decode cX11_full 5 = .ok (.dup2, 1) by decide +kernel)))
    (ok_leaf (ok_iaload (show decode cX11_full 6 = .ok (.iaload, 1) by decide +kernel))))))
    (ok_node
    (ok_node
    (ok_leaf (ok_iconst (show decode cX11_full 7 = .ok (.iconst 1, 1) by decide +kernel) (by decide +kernel)))
    (ok_leaf (ok_iadd (show decode cX11_full 8 = .ok (.iadd, 1) by decide +kernel))))
    (ok_node
    (ok_leaf (ok_iastore (show decode cX11_full 9 = .ok (.iastore, 1) by decide +kernel)))
    (ok_node
    (ok_leaf (ok_bipush (show decode cX11_full 10 = .ok (.bipush (-4), 2) by decide +kernel) (by decide +kernel)))
    (ok_leaf (ok_ireturn (show decode cX11_full 12 = .ok (.ireturn, 1) by decide +kernel) rfl)))))
set_option maxRecDepth 20000 in
set_option maxHeartbeats 4000000 in
theorem ok_X11_within {sc : List Int32} : ∀ pc, pOk mtOf 189 M_X11_within false sc pc (cd_X11_within pc) := by
  unfold cd_X11_within
  exact ok_node
    (ok_node
    (ok_node
    (ok_leaf (ok_iload_n (show decode cX11_within 0 = .ok (.iload_n 0, 1) by decide +kernel) rfl))
    (ok_leaf (ok_iload_n (show decode cX11_within 1 = .ok (.iload_n 1, 1) by decide +kernel) rfl)))
    (ok_node
    (ok_leaf (ok_icmp_lt (show decode cX11_within 2 = .ok (.if_icmp .lt 12, 3) by decide +kernel) (by decide +kernel)))
    (ok_node
    (ok_leaf (ok_iload_n (show decode cX11_within 5 = .ok (.iload_n 0, 1) by decide +kernel) rfl))
    (ok_leaf (ok_iload_n (show decode cX11_within 6 = .ok (.iload_n 2, 1) by decide +kernel) rfl)))))
    (ok_node
    (ok_node
    (ok_leaf (ok_icmp_gt (show decode cX11_within 7 = .ok (.if_icmp .gt 7, 3) by decide +kernel) (by decide +kernel)))
    (ok_leaf (ok_iconst (show decode cX11_within 10 = .ok (.iconst 1, 1) by decide +kernel) (by decide +kernel))))
    (ok_node
    (ok_leaf (ok_goto (show decode cX11_within 11 = .ok (.goto 4, 3) by decide +kernel) (by decide +kernel)))
    (ok_node
    (ok_leaf (ok_iconst (show decode cX11_within 14 = .ok (.iconst 0, 1) by decide +kernel) (by decide +kernel)))
    (ok_leaf (ok_zreturn (show decode cX11_within 15 = .ok (.ireturn, 1) by decide +kernel) rfl)))))
set_option maxRecDepth 20000 in
set_option maxHeartbeats 4000000 in
theorem ok_X11_signsOf {sc : List Int32} : ∀ pc, pOk mtOf 189 M_X11_signsOf false sc pc (cd_X11_signsOf pc) := by
  unfold cd_X11_signsOf
  exact ok_node
    (ok_node
    (ok_node
    (ok_node
    (ok_leaf (ok_iload_n (show decode cX11_signsOf 0 = .ok (.iload_n 0, 1) by decide +kernel) rfl))
    (ok_node
    (ok_leaf (ok_istore_n (show decode cX11_signsOf 1 = .ok (.istore_n 2, 1) by decide +kernel) rfl))
    (ok_leaf (ok_iconst (show decode cX11_signsOf 2 = .ok (.iconst 0, 1) by decide +kernel) (by decide +kernel)))))
    (ok_node
    (ok_node
    (ok_leaf (ok_istore_n (show decode cX11_signsOf 3 = .ok (.istore_n 3, 1) by decide +kernel) rfl))
    (ok_leaf (ok_iconst (show decode cX11_signsOf 4 = .ok (.iconst 0, 1) by decide +kernel) (by decide +kernel))))
    (ok_node
    (ok_leaf (ok_istore (show decode cX11_signsOf 5 = .ok (.istore 4, 2) by decide +kernel)))
    (ok_leaf (ok_iload (show decode cX11_signsOf 7 = .ok (.iload 4, 2) by decide +kernel))))))
    (ok_node
    (ok_node
    (ok_leaf (ok_iload_n (show decode cX11_signsOf 9 = .ok (.iload_n 1, 1) by decide +kernel) rfl))
    (ok_node
    (ok_leaf (ok_icmp_ge (show decode cX11_signsOf 10 = .ok (.if_icmp .ge 28, 3) by decide +kernel) (by decide +kernel)))
    (ok_leaf (ok_iload_n (show decode cX11_signsOf 13 = .ok (.iload_n 3, 1) by decide +kernel) rfl))))
    (ok_node
    (ok_node
    (ok_leaf (ok_iload_n (show decode cX11_signsOf 14 = .ok (.iload_n 2, 1) by decide +kernel) rfl))
    (ok_leaf (ok_bipush (show decode cX11_signsOf 15 = .ok (.bipush 6, 2) by decide +kernel) (by decide +kernel))))
    (ok_node
    (ok_leaf (ok_irem (show decode cX11_signsOf 17 = .ok (.irem, 1) by decide +kernel)))
    (ok_leaf (ok_iconst (show decode cX11_signsOf 18 = .ok (.iconst 1, 1) by decide +kernel) (by decide +kernel)))))))
    (ok_node
    (ok_node
    (ok_node
    (ok_leaf (ok_iadd (show decode cX11_signsOf 19 = .ok (.iadd, 1) by decide +kernel)))
    (ok_node
    (ok_leaf (ok_iconst (show decode cX11_signsOf 20 = .ok (.iconst 3, 1) by decide +kernel) (by decide +kernel)))
    (ok_leaf (ok_iload (show decode cX11_signsOf 21 = .ok (.iload 4, 2) by decide +kernel)))))
    (ok_node
    (ok_node
    (ok_leaf (ok_imul (show decode cX11_signsOf 23 = .ok (.imul, 1) by decide +kernel)))
    (ok_leaf (ok_ishl (show decode cX11_signsOf 24 = .ok (.ishl, 1) by decide +kernel))))
    (ok_node
    (ok_leaf (ok_ior (show decode cX11_signsOf 25 = .ok (.ior, 1) by decide +kernel)))
    (ok_leaf (ok_istore_n (show decode cX11_signsOf 26 = .ok (.istore_n 3, 1) by decide +kernel) rfl)))))
    (ok_node
    (ok_node
    (ok_node
    (ok_leaf (ok_iload_n (show decode cX11_signsOf 27 = .ok (.iload_n 2, 1) by decide +kernel) rfl))
    (ok_leaf (ok_bipush (show decode cX11_signsOf 28 = .ok (.bipush 6, 2) by decide +kernel) (by decide +kernel))))
    (ok_node
    (ok_leaf (ok_idiv (show decode cX11_signsOf 30 = .ok (.idiv, 1) by decide +kernel)))
    (ok_leaf (ok_istore_n (show decode cX11_signsOf 31 = .ok (.istore_n 2, 1) by decide +kernel) rfl))))
    (ok_node
    (ok_node
    (ok_leaf (ok_iinc (show decode cX11_signsOf 32 = .ok (.iinc 4 1, 3) by decide +kernel) (by decide +kernel)))
    (ok_leaf (ok_goto (show decode cX11_signsOf 35 = .ok (.goto (-28), 3) by decide +kernel) (by decide +kernel))))
    (ok_node
    (ok_leaf (ok_iload_n (show decode cX11_signsOf 38 = .ok (.iload_n 3, 1) by decide +kernel) rfl))
    (ok_leaf (ok_ireturn (show decode cX11_signsOf 39 = .ok (.ireturn, 1) by decide +kernel) rfl))))))
set_option maxRecDepth 20000 in
set_option maxHeartbeats 4000000 in
theorem ok_X11_signAt {sc : List Int32} : ∀ pc, pOk mtOf 189 M_X11_signAt false sc pc (cd_X11_signAt pc) := by
  unfold cd_X11_signAt
  exact ok_node
    (ok_node
    (ok_node
    (ok_leaf (ok_iload_n (show decode cX11_signAt 0 = .ok (.iload_n 0, 1) by decide +kernel) rfl))
    (ok_node
    (ok_leaf (ok_iconst (show decode cX11_signAt 1 = .ok (.iconst 3, 1) by decide +kernel) (by decide +kernel)))
    (ok_leaf (ok_iload_n (show decode cX11_signAt 2 = .ok (.iload_n 1, 1) by decide +kernel) rfl))))
    (ok_node
    (ok_leaf (ok_iconst (show decode cX11_signAt 3 = .ok (.iconst 1, 1) by decide +kernel) (by decide +kernel)))
    (ok_node
    (ok_leaf (ok_isub (show decode cX11_signAt 4 = .ok (.isub, 1) by decide +kernel)))
    (ok_leaf (ok_iload_n (show decode cX11_signAt 5 = .ok (.iload_n 2, 1) by decide +kernel) rfl)))))
    (ok_node
    (ok_node
    (ok_leaf (ok_isub (show decode cX11_signAt 6 = .ok (.isub, 1) by decide +kernel)))
    (ok_node
    (ok_leaf (ok_imul (show decode cX11_signAt 7 = .ok (.imul, 1) by decide +kernel)))
    (ok_leaf (ok_ishr (show decode cX11_signAt 8 = .ok (.ishr, 1) by decide +kernel)))))
    (ok_node
    (ok_leaf (ok_bipush (show decode cX11_signAt 9 = .ok (.bipush 7, 2) by decide +kernel) (by decide +kernel)))
    (ok_node
    (ok_leaf (ok_iand (show decode cX11_signAt 11 = .ok (.iand, 1) by decide +kernel)))
    (ok_leaf (ok_ireturn (show decode cX11_signAt 12 = .ok (.ireturn, 1) by decide +kernel) rfl)))))
