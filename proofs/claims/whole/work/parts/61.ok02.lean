set_option maxRecDepth 20000 in
set_option maxHeartbeats 4000000 in
theorem ok_X4_popInto {sc : List Int32} : ∀ pc, pOk mtOf 189 M_X4_popInto false sc pc (cd_X4_popInto pc) := by
  unfold cd_X4_popInto
  exact ok_node
    (ok_node
    (ok_node
    (ok_node
    (ok_leaf (ok_aload_n (show decode cX4_popInto 0 = .ok (.aload_n 0, 1) by decide +kernel) rfl))
    (ok_node
    (ok_leaf (ok_getfield (show decode cX4_popInto 1 = .ok (.getfield 16, 3) by decide +kernel) (Or.inl (fd_X4 (by decide) wd_160 rfl rfl))))
    (ok_leaf (ok_if_le (show decode cX4_popInto 4 = .ok (.ifCond .le 11, 3) by decide +kernel) (by decide +kernel)))))
    (ok_node
    (ok_leaf (ok_aload_n (show decode cX4_popInto 7 = .ok (.aload_n 0, 1) by decide +kernel) rfl))
    (ok_node
    (ok_leaf (ok_getfield (show decode cX4_popInto 8 = .ok (.getfield 16, 3) by decide +kernel) (Or.inl (fd_X4 (by decide) wd_160 rfl rfl))))
    (ok_leaf (ok_iconst (show decode cX4_popInto 11 = .ok (.iconst 5, 1) by decide +kernel) (by decide +kernel))))))
    (ok_node
    (ok_node
    (ok_leaf (ok_icmp_le (show decode cX4_popInto 12 = .ok (.if_icmp .le 5, 3) by decide +kernel) (by decide +kernel)))
    (ok_node
    (ok_leaf (ok_iconst (show decode cX4_popInto 15 = .ok (.iconst 0, 1) by decide +kernel) (by decide +kernel)))
    (ok_leaf (ok_zreturn (show decode cX4_popInto 16 = .ok (.ireturn, 1) by decide +kernel) rfl))))
    (ok_node
    (ok_leaf (ok_aload_n (show decode cX4_popInto 17 = .ok (.aload_n 0, 1) by decide +kernel) rfl))
    (ok_node
    (ok_leaf (ok_dup (show decode cX4_popInto 18 = .ok (.dup, 1) by decide +kernel)))
    (ok_leaf (ok_getfield (show decode cX4_popInto 19 = .ok (.getfield 16, 3) by decide +kernel) (Or.inl (fd_X4 (by decide) wd_160 rfl rfl))))))))
    (ok_node
    (ok_node
    (ok_node
    (ok_leaf (ok_iconst (show decode cX4_popInto 22 = .ok (.iconst 1, 1) by decide +kernel) (by decide +kernel)))
    (ok_node
    (ok_leaf (ok_isub (show decode cX4_popInto 23 = .ok (.isub, 1) by decide +kernel)))
    (ok_leaf (ok_putI (show decode cX4_popInto 24 = .ok (.putfield 16, 3) by decide +kernel) (Or.inl (fd_X4 (by decide) wd_160 rfl rfl)) rfl))))
    (ok_node
    (ok_leaf (ok_aload_n (show decode cX4_popInto 27 = .ok (.aload_n 1, 1) by decide +kernel) rfl))
    (ok_node
    (ok_leaf (ok_aload_n (show decode cX4_popInto 28 = .ok (.aload_n 0, 1) by decide +kernel) rfl))
    (ok_leaf (ok_getfield (show decode cX4_popInto 29 = .ok (.getfield 11, 3) by decide +kernel) (Or.inr (fdF_X4 (by decide) wd_156 rfl rfl)))))))
    (ok_node
    (ok_node
    (ok_leaf (ok_aload_n (show decode cX4_popInto 32 = .ok (.aload_n 0, 1) by decide +kernel) rfl))
    (ok_node
    (ok_leaf (ok_getfield (show decode cX4_popInto 33 = .ok (.getfield 16, 3) by decide +kernel) (Or.inl (fd_X4 (by decide) wd_160 rfl rfl))))
    (ok_leaf (ok_aaload (show decode cX4_popInto 36 = .ok (.aaload, 1) by decide +kernel)))))
    (ok_node
    (ok_leaf (ok_callV (C := RX2) (T := TX2) (N := 7) (Mc := M_X2_copyFrom) (show decode cX4_popInto 37 = .ok (.invokevirtual 20, 3) by decide +kernel) rfl (by decide) (by decide +kernel) rfl rfl wd_161 wd_162 wd_163 wd_58 wd_164 ⟨by decide +kernel, by decide +kernel, by decide +kernel⟩ (by decide)))
    (ok_node
    (ok_leaf (ok_iconst (show decode cX4_popInto 40 = .ok (.iconst 1, 1) by decide +kernel) (by decide +kernel)))
    (ok_leaf (ok_zreturn (show decode cX4_popInto 41 = .ok (.ireturn, 1) by decide +kernel) rfl))))))
set_option maxRecDepth 20000 in
set_option maxHeartbeats 4000000 in
theorem ok_X5_kind {sc : List Int32} : ∀ pc, pOk mtOf 189 M_X5_kind false sc pc (cd_X5_kind pc) := by
  unfold cd_X5_kind
  exact ok_node
    (ok_node
    (ok_node
    (ok_node
    (ok_leaf (ok_iload_n (show decode cX5_kind 0 = .ok (.iload_n 0, 1) by decide +kernel) rfl))
    (ok_leaf (ok_table (show decode cX5_kind 1 = .ok (.tableswitch 55 97 103 #[43, 46, 55, 55, 55, 49, 52], 43) by decide +kernel) (by decide +kernel) (by decide +kernel) (by decide +kernel) (by decide +kernel))))
    (ok_node
    (ok_leaf (ok_bipush (show decode cX5_kind 44 = .ok (.bipush 6, 2) by decide +kernel) (by decide +kernel)))
    (ok_leaf (ok_ireturn (show decode cX5_kind 46 = .ok (.ireturn, 1) by decide +kernel) rfl))))
    (ok_node
    (ok_node
    (ok_leaf (ok_bipush (show decode cX5_kind 47 = .ok (.bipush 7, 2) by decide +kernel) (by decide +kernel)))
    (ok_leaf (ok_ireturn (show decode cX5_kind 49 = .ok (.ireturn, 1) by decide +kernel) rfl)))
    (ok_node
    (ok_leaf (ok_bipush (show decode cX5_kind 50 = .ok (.bipush 8, 2) by decide +kernel) (by decide +kernel)))
    (ok_node
    (ok_leaf (ok_ireturn (show decode cX5_kind 52 = .ok (.ireturn, 1) by decide +kernel) rfl))
    (ok_leaf (ok_bipush (show decode cX5_kind 53 = .ok (.bipush 9, 2) by decide +kernel) (by decide +kernel)))))))
    (ok_node
    (ok_node
    (ok_node
    (ok_leaf (ok_ireturn (show decode cX5_kind 55 = .ok (.ireturn, 1) by decide +kernel) rfl))
    (ok_leaf (ok_iload_n (show decode cX5_kind 56 = .ok (.iload_n 0, 1) by decide +kernel) rfl)))
    (ok_node
    (ok_leaf (ok_callS (Mc := M_X5_isFlex) (show decode cX5_kind 57 = .ok (.invokestatic 9, 3) by decide +kernel) rfl (by decide) (by decide +kernel) wd_165 wd_72 wd_28 wd_73 ⟨by decide +kernel, by decide +kernel, by decide +kernel⟩ (by decide)))
    (ok_node
    (ok_leaf (ok_if_eq (show decode cX5_kind 60 = .ok (.ifCond .eq 10, 3) by decide +kernel) (by decide +kernel)))
    (ok_leaf (ok_iload_n (show decode cX5_kind 63 = .ok (.iload_n 0, 1) by decide +kernel) rfl)))))
    (ok_node
    (ok_node
    (ok_leaf (ok_bipush (show decode cX5_kind 64 = .ok (.bipush 85, 2) by decide +kernel) (by decide +kernel)))
    (ok_leaf (ok_isub (show decode cX5_kind 66 = .ok (.isub, 1) by decide +kernel))))
    (ok_node
    (ok_leaf (ok_goto (show decode cX5_kind 67 = .ok (.goto 4, 3) by decide +kernel) (by decide +kernel)))
    (ok_node
    (ok_leaf (ok_iconst (show decode cX5_kind 70 = .ok (.iconst (-1), 1) by decide +kernel) (by decide +kernel)))
    (ok_leaf (ok_ireturn (show decode cX5_kind 71 = .ok (.ireturn, 1) by decide +kernel) rfl))))))
set_option maxRecDepth 20000 in
set_option maxHeartbeats 4000000 in
theorem ok_X5_isFlex {sc : List Int32} : ∀ pc, pOk mtOf 189 M_X5_isFlex false sc pc (cd_X5_isFlex pc) := by
  unfold cd_X5_isFlex
  exact ok_node
    (ok_node
    (ok_node
    (ok_leaf (ok_iload_n (show decode cX5_isFlex 0 = .ok (.iload_n 0, 1) by decide +kernel) rfl))
    (ok_leaf (ok_bipush (show decode cX5_isFlex 1 = .ok (.bipush 85, 2) by decide +kernel) (by decide +kernel))))
    (ok_node
    (ok_leaf (ok_icmp_lt (show decode cX5_isFlex 3 = .ok (.if_icmp .lt 13, 3) by decide +kernel) (by decide +kernel)))
    (ok_node
    (ok_leaf (ok_iload_n (show decode cX5_isFlex 6 = .ok (.iload_n 0, 1) by decide +kernel) rfl))
    (ok_leaf (ok_bipush (show decode cX5_isFlex 7 = .ok (.bipush 90, 2) by decide +kernel) (by decide +kernel))))))
    (ok_node
    (ok_node
    (ok_leaf (ok_icmp_gt (show decode cX5_isFlex 9 = .ok (.if_icmp .gt 7, 3) by decide +kernel) (by decide +kernel)))
    (ok_leaf (ok_iconst (show decode cX5_isFlex 12 = .ok (.iconst 1, 1) by decide +kernel) (by decide +kernel))))
    (ok_node
    (ok_leaf (ok_goto (show decode cX5_isFlex 13 = .ok (.goto 4, 3) by decide +kernel) (by decide +kernel)))
    (ok_node
    (ok_leaf (ok_iconst (show decode cX5_isFlex 16 = .ok (.iconst 0, 1) by decide +kernel) (by decide +kernel)))
    (ok_leaf (ok_zreturn (show decode cX5_isFlex 17 = .ok (.ireturn, 1) by decide +kernel) rfl)))))
set_option maxRecDepth 20000 in
set_option maxHeartbeats 4000000 in
theorem ok_X5_parts {sc : List Int32} : ∀ pc, pOk mtOf 189 M_X5_parts false sc pc (cd_X5_parts pc) := by
  unfold cd_X5_parts
  exact ok_node
    (ok_node
    (ok_node
    (ok_leaf (ok_iload_n (show decode cX5_parts 0 = .ok (.iload_n 0, 1) by decide +kernel) rfl))
    (ok_leaf (ok_table (show decode cX5_parts 1 = .ok (.tableswitch 91 86 103 #[87, 89, 91, 87, 89, 91, 91, 91, 91, 91, 91, 91, 91, 91, 91, 91, 87, 89], 87) by decide +kernel) (by decide +kernel) (by decide +kernel) (by decide +kernel) (by decide +kernel))))
    (ok_node
    (ok_leaf (ok_iconst (show decode cX5_parts 88 = .ok (.iconst 1, 1) by decide +kernel) (by decide +kernel)))
    (ok_leaf (ok_ireturn (show decode cX5_parts 89 = .ok (.ireturn, 1) by decide +kernel) rfl))))
    (ok_node
    (ok_node
    (ok_leaf (ok_iconst (show decode cX5_parts 90 = .ok (.iconst 2, 1) by decide +kernel) (by decide +kernel)))
    (ok_leaf (ok_ireturn (show decode cX5_parts 91 = .ok (.ireturn, 1) by decide +kernel) rfl)))
    (ok_node
    (ok_leaf (ok_iconst (show decode cX5_parts 92 = .ok (.iconst 0, 1) by decide +kernel) (by decide +kernel)))
    (ok_leaf (ok_ireturn (show decode cX5_parts 93 = .ok (.ireturn, 1) by decide +kernel) rfl))))
set_option maxRecDepth 20000 in
set_option maxHeartbeats 4000000 in
theorem ok_X6_init {sc : List Int32} : ∀ pc, pOk mtOf 189 M_X6_init false sc pc (cd_X6_init pc) := by
  unfold cd_X6_init
  exact ok_node
    (ok_node
    (ok_node
    (ok_leaf (ok_aload_n (show decode cX6_init 0 = .ok (.aload_n 0, 1) by decide +kernel) rfl))
    (ok_node
    (ok_leaf (ok_obj (show decode cX6_init 1 = .ok (.invokespecial 5, 3) by decide +kernel) wd_166 wd_1 wd_2))
    (ok_leaf (ok_aload_n (show decode cX6_init 4 = .ok (.aload_n 0, 1) by decide +kernel) rfl))))
    (ok_node
    (ok_node
    (ok_leaf (ok_bipush (show decode cX6_init 5 = .ok (.bipush 20, 2) by decide +kernel) (by decide +kernel)))
    (ok_leaf (ok_newarray (show decode cX6_init 7 = .ok (.newarray .int, 2) by decide +kernel) wd_3)))
    (ok_node
    (ok_leaf (ok_putR (show decode cX6_init 9 = .ok (.putfield 13, 3) by decide +kernel) (Or.inr ⟨fdF_X6 (by decide) wd_167 rfl rfl, rfl, fun r hr => by cases hr; rfl⟩) (Or.inr ⟨_, rfl⟩)))
    (ok_leaf (ok_aload_n (show decode cX6_init 12 = .ok (.aload_n 0, 1) by decide +kernel) rfl)))))
    (ok_node
    (ok_node
    (ok_leaf (ok_bipush (show decode cX6_init 13 = .ok (.bipush 20, 2) by decide +kernel) (by decide +kernel)))
    (ok_node
    (ok_leaf (ok_newarray (show decode cX6_init 15 = .ok (.newarray .int, 2) by decide +kernel) wd_3))
    (ok_leaf (ok_putR (show decode cX6_init 17 = .ok (.putfield 17, 3) by decide +kernel) (Or.inr ⟨fdF_X6 (by decide) wd_168 rfl rfl, rfl, fun r hr => by cases hr; rfl⟩) (Or.inr ⟨_, rfl⟩)))))
    (ok_node
    (ok_node
    (ok_leaf (ok_aload_n (show decode cX6_init 20 = .ok (.aload_n 0, 1) by decide +kernel) rfl))
    (ok_leaf (ok_aload_n (show decode cX6_init 21 = .ok (.aload_n 1, 1) by decide +kernel) rfl)))
    (ok_node
    (ok_leaf (ok_putR (show decode cX6_init 22 = .ok (.putfield 20, 3) by decide +kernel) (Or.inr ⟨fdF_X6 (by decide) wd_169 rfl rfl, rfl, fun r hr => by cases hr; rfl⟩) (Or.inl ⟨_, rfl⟩)))
    (ok_leaf (ok_return (show decode cX6_init 25 = .ok (.return_, 1) by decide +kernel) rfl)))))
set_option maxRecDepth 20000 in
set_option maxHeartbeats 4000000 in
theorem ok_X6_count {sc : List Int32} : ∀ pc, pOk mtOf 189 M_X6_count false sc pc (cd_X6_count pc) := by
  unfold cd_X6_count
  exact ok_node
    (ok_leaf (ok_aload_n (show decode cX6_count 0 = .ok (.aload_n 0, 1) by decide +kernel) rfl))
    (ok_node
    (ok_leaf (ok_getfield (show decode cX6_count 1 = .ok (.getfield 24, 3) by decide +kernel) (Or.inl (fd_X6 (by decide) wd_170 rfl rfl))))
    (ok_leaf (ok_ireturn (show decode cX6_count 4 = .ok (.ireturn, 1) by decide +kernel) rfl)))
set_option maxRecDepth 20000 in
set_option maxHeartbeats 4000000 in
theorem ok_X6_left {sc : List Int32} : ∀ pc, pOk mtOf 189 M_X6_left false sc pc (cd_X6_left pc) := by
  unfold cd_X6_left
  exact ok_node
    (ok_node
    (ok_node
    (ok_leaf (ok_iload_n (show decode cX6_left 0 = .ok (.iload_n 1, 1) by decide +kernel) rfl))
    (ok_node
    (ok_leaf (ok_if_lt (show decode cX6_left 1 = .ok (.ifCond .lt 18, 3) by decide +kernel) (by decide +kernel)))
    (ok_leaf (ok_iload_n (show decode cX6_left 4 = .ok (.iload_n 1, 1) by decide +kernel) rfl))))
    (ok_node
    (ok_leaf (ok_bipush (show decode cX6_left 5 = .ok (.bipush 20, 2) by decide +kernel) (by decide +kernel)))
    (ok_node
    (ok_leaf (ok_icmp_ge (show decode cX6_left 7 = .ok (.if_icmp .ge 12, 3) by decide +kernel) (by decide +kernel)))
    (ok_leaf (ok_aload_n (show decode cX6_left 10 = .ok (.aload_n 0, 1) by decide +kernel) rfl)))))
    (ok_node
    (ok_node
    (ok_leaf (ok_getfield (show decode cX6_left 11 = .ok (.getfield 13, 3) by decide +kernel) (Or.inr (fdF_X6 (by decide) wd_167 rfl rfl))))
    (ok_node
    (ok_leaf (ok_iload_n (show decode cX6_left 14 = .ok (.iload_n 1, 1) by decide +kernel) rfl))
    (ok_leaf (ok_iaload (show decode cX6_left 15 = .ok (.iaload, 1) by decide +kernel)))))
    (ok_node
    (ok_leaf (ok_goto (show decode cX6_left 16 = .ok (.goto 4, 3) by decide +kernel) (by decide +kernel)))
    (ok_node
    (ok_leaf (ok_iconst (show decode cX6_left 19 = .ok (.iconst 0, 1) by decide +kernel) (by decide +kernel)))
    (ok_leaf (ok_ireturn (show decode cX6_left 20 = .ok (.ireturn, 1) by decide +kernel) rfl)))))
set_option maxRecDepth 20000 in
set_option maxHeartbeats 4000000 in
theorem ok_X6_right {sc : List Int32} : ∀ pc, pOk mtOf 189 M_X6_right false sc pc (cd_X6_right pc) := by
  unfold cd_X6_right
  exact ok_node
    (ok_node
    (ok_node
    (ok_leaf (ok_iload_n (show decode cX6_right 0 = .ok (.iload_n 1, 1) by decide +kernel) rfl))
    (ok_node
    (ok_leaf (ok_if_lt (show decode cX6_right 1 = .ok (.ifCond .lt 18, 3) by decide +kernel) (by decide +kernel)))
    (ok_leaf (ok_iload_n (show decode cX6_right 4 = .ok (.iload_n 1, 1) by decide +kernel) rfl))))
    (ok_node
    (ok_leaf (ok_bipush (show decode cX6_right 5 = .ok (.bipush 20, 2) by decide +kernel) (by decide +kernel)))
    (ok_node
    (ok_leaf (ok_icmp_ge (show decode cX6_right 7 = .ok (.if_icmp .ge 12, 3) by decide +kernel) (by decide +kernel)))
    (ok_leaf (ok_aload_n (show decode cX6_right 10 = .ok (.aload_n 0, 1) by decide +kernel) rfl)))))
    (ok_node
    (ok_node
    (ok_leaf (ok_getfield (show decode cX6_right 11 = .ok (.getfield 17, 3) by decide +kernel) (Or.inr (fdF_X6 (by decide) wd_168 rfl rfl))))
    (ok_node
    (ok_leaf (ok_iload_n (show decode cX6_right 14 = .ok (.iload_n 1, 1) by decide +kernel) rfl))
    (ok_leaf (ok_iaload (show decode cX6_right 15 = .ok (.iaload, 1) by decide +kernel)))))
    (ok_node
    (ok_leaf (ok_goto (show decode cX6_right 16 = .ok (.goto 4, 3) by decide +kernel) (by decide +kernel)))
    (ok_node
    (ok_leaf (ok_iconst (show decode cX6_right 19 = .ok (.iconst 0, 1) by decide +kernel) (by decide +kernel)))
    (ok_leaf (ok_ireturn (show decode cX6_right 20 = .ok (.ireturn, 1) by decide +kernel) rfl)))))
set_option maxRecDepth 20000 in
set_option maxHeartbeats 4000000 in
theorem ok_X6_kind {sc : List Int32} : ∀ pc, pOk mtOf 189 M_X6_kind false sc pc (cd_X6_kind pc) := by
  unfold cd_X6_kind
  exact ok_node
    (ok_node
    (ok_node
    (ok_node
    (ok_leaf (ok_aload_n (show decode cX6_kind 0 = .ok (.aload_n 0, 1) by decide +kernel) rfl))
    (ok_node
    (ok_leaf (ok_getfield (show decode cX6_kind 1 = .ok (.getfield 20, 3) by decide +kernel) (Or.inr (fdF_X6 (by decide) wd_169 rfl rfl))))
    (ok_leaf (ok_aload_n (show decode cX6_kind 4 = .ok (.aload_n 0, 1) by decide +kernel) rfl))))
    (ok_node
    (ok_node
    (ok_leaf (ok_iload_n (show decode cX6_kind 5 = .ok (.iload_n 1, 1) by decide +kernel) rfl))
    (ok_leaf (ok_callV (C := RX6) (T := TX6) (N := 4) (Mc := M_X6_left) (show decode cX6_kind 6 = .ok (.invokevirtual 28, 3) by decide +kernel) rfl (by decide) (by decide +kernel) rfl rfl wd_171 wd_172 wd_173 wd_174 wd_175 ⟨by decide +kernel, by decide +kernel, by decide +kernel⟩ (by decide))))
    (ok_node
    (ok_leaf (ok_callV (C := RX2) (T := TX2) (N := 7) (Mc := M_X2_letterAt) (show decode cX6_kind 9 = .ok (.invokevirtual 32, 3) by decide +kernel) rfl (by decide) (by decide +kernel) rfl rfl wd_176 wd_68 wd_69 wd_58 wd_70 ⟨by decide +kernel, by decide +kernel, by decide +kernel⟩ (by decide)))
    (ok_leaf (ok_callS (Mc := M_X5_isFlex) (show decode cX6_kind 12 = .ok (.invokestatic 35, 3) by decide +kernel) rfl (by decide) (by decide +kernel) wd_177 wd_72 wd_28 wd_73 ⟨by decide +kernel, by decide +kernel, by decide +kernel⟩ (by decide))))))
    (ok_node
    (ok_node
    (ok_node
    (ok_leaf (ok_istore_n (show decode cX6_kind 15 = .ok (.istore_n 2, 1) by decide +kernel) rfl))
    (ok_leaf (ok_aload_n (show decode cX6_kind 16 = .ok (.aload_n 0, 1) by decide +kernel) rfl)))
    (ok_node
    (ok_leaf (ok_getfield (show decode cX6_kind 17 = .ok (.getfield 20, 3) by decide +kernel) (Or.inr (fdF_X6 (by decide) wd_169 rfl rfl))))
    (ok_leaf (ok_aload_n (show decode cX6_kind 20 = .ok (.aload_n 0, 1) by decide +kernel) rfl))))
    (ok_node
    (ok_node
    (ok_leaf (ok_iload_n (show decode cX6_kind 21 = .ok (.iload_n 1, 1) by decide +kernel) rfl))
    (ok_leaf (ok_callV (C := RX6) (T := TX6) (N := 4) (Mc := M_X6_right) (show decode cX6_kind 22 = .ok (.invokevirtual 41, 3) by decide +kernel) rfl (by decide) (by decide +kernel) rfl rfl wd_178 wd_179 wd_180 wd_174 wd_181 ⟨by decide +kernel, by decide +kernel, by decide +kernel⟩ (by decide))))
    (ok_node
    (ok_leaf (ok_callV (C := RX2) (T := TX2) (N := 7) (Mc := M_X2_letterAt) (show decode cX6_kind 25 = .ok (.invokevirtual 32, 3) by decide +kernel) rfl (by decide) (by decide +kernel) rfl rfl wd_176 wd_68 wd_69 wd_58 wd_70 ⟨by decide +kernel, by decide +kernel, by decide +kernel⟩ (by decide)))
    (ok_leaf (ok_callS (Mc := M_X5_isFlex) (show decode cX6_kind 28 = .ok (.invokestatic 35, 3) by decide +kernel) rfl (by decide) (by decide +kernel) wd_177 wd_72 wd_28 wd_73 ⟨by decide +kernel, by decide +kernel, by decide +kernel⟩ (by decide)))))))
    (ok_node
    (ok_node
    (ok_node
    (ok_leaf (ok_istore_n (show decode cX6_kind 31 = .ok (.istore_n 3, 1) by decide +kernel) rfl))
    (ok_node
    (ok_leaf (ok_iload_n (show decode cX6_kind 32 = .ok (.iload_n 2, 1) by decide +kernel) rfl))
    (ok_leaf (ok_if_eq (show decode cX6_kind 33 = .ok (.ifCond .eq 9, 3) by decide +kernel) (by decide +kernel)))))
    (ok_node
    (ok_node
    (ok_leaf (ok_iload_n (show decode cX6_kind 36 = .ok (.iload_n 3, 1) by decide +kernel) rfl))
    (ok_leaf (ok_if_eq (show decode cX6_kind 37 = .ok (.ifCond .eq 5, 3) by decide +kernel) (by decide +kernel))))
    (ok_node
    (ok_leaf (ok_iconst (show decode cX6_kind 40 = .ok (.iconst 3, 1) by decide +kernel) (by decide +kernel)))
    (ok_leaf (ok_ireturn (show decode cX6_kind 41 = .ok (.ireturn, 1) by decide +kernel) rfl)))))
    (ok_node
    (ok_node
    (ok_node
    (ok_leaf (ok_iload_n (show decode cX6_kind 42 = .ok (.iload_n 2, 1) by decide +kernel) rfl))
    (ok_leaf (ok_if_ne (show decode cX6_kind 43 = .ok (.ifCond .ne 7, 3) by decide +kernel) (by decide +kernel))))
    (ok_node
    (ok_leaf (ok_iload_n (show decode cX6_kind 46 = .ok (.iload_n 3, 1) by decide +kernel) rfl))
    (ok_leaf (ok_if_eq (show decode cX6_kind 47 = .ok (.ifCond .eq 7, 3) by decide +kernel) (by decide +kernel)))))
    (ok_node
    (ok_node
    (ok_leaf (ok_iconst (show decode cX6_kind 50 = .ok (.iconst 2, 1) by decide +kernel) (by decide +kernel)))
    (ok_leaf (ok_goto (show decode cX6_kind 51 = .ok (.goto 4, 3) by decide +kernel) (by decide +kernel))))
    (ok_node
    (ok_leaf (ok_iconst (show decode cX6_kind 54 = .ok (.iconst 1, 1) by decide +kernel) (by decide +kernel)))
    (ok_leaf (ok_ireturn (show decode cX6_kind 55 = .ok (.ireturn, 1) by decide +kernel) rfl))))))
set_option maxRecDepth 20000 in
set_option maxHeartbeats 4000000 in
theorem ok_X6_ways {sc : List Int32} : ∀ pc, pOk mtOf 189 M_X6_ways false sc pc (cd_X6_ways pc) := by
  unfold cd_X6_ways
  exact ok_node
    (ok_node
    (ok_node
    (ok_node
    (ok_leaf (ok_aload_n (show decode cX6_ways 0 = .ok (.aload_n 0, 1) by decide +kernel) rfl))
    (ok_node
    (ok_leaf (ok_iload_n (show decode cX6_ways 1 = .ok (.iload_n 1, 1) by decide +kernel) rfl))
    (ok_leaf (ok_callV (C := RX6) (T := TX6) (N := 4) (Mc := M_X6_kind) (show decode cX6_ways 2 = .ok (.invokevirtual 44, 3) by decide +kernel) rfl (by decide) (by decide +kernel) rfl rfl wd_182 wd_183 wd_184 wd_174 wd_185 ⟨by decide +kernel, by decide +kernel, by decide +kernel⟩ (by decide)))))
    (ok_node
    (ok_node
    (ok_leaf (ok_iconst (show decode cX6_ways 5 = .ok (.iconst 2, 1) by decide +kernel) (by decide +kernel)))
    (ok_leaf (ok_icmp_eq (show decode cX6_ways 6 = .ok (.if_icmp .eq 5, 3) by decide +kernel) (by decide +kernel))))
    (ok_node
    (ok_leaf (ok_iconst (show decode cX6_ways 9 = .ok (.iconst 0, 1) by decide +kernel) (by decide +kernel)))
    (ok_leaf (ok_ireturn (show decode cX6_ways 10 = .ok (.ireturn, 1) by decide +kernel) rfl)))))
    (ok_node
    (ok_node
    (ok_leaf (ok_aload_n (show decode cX6_ways 11 = .ok (.aload_n 0, 1) by decide +kernel) rfl))
    (ok_node
    (ok_leaf (ok_getfield (show decode cX6_ways 12 = .ok (.getfield 20, 3) by decide +kernel) (Or.inr (fdF_X6 (by decide) wd_169 rfl rfl))))
    (ok_leaf (ok_aload_n (show decode cX6_ways 15 = .ok (.aload_n 0, 1) by decide +kernel) rfl))))
    (ok_node
    (ok_node
    (ok_leaf (ok_iload_n (show decode cX6_ways 16 = .ok (.iload_n 1, 1) by decide +kernel) rfl))
    (ok_leaf (ok_callV (C := RX6) (T := TX6) (N := 4) (Mc := M_X6_left) (show decode cX6_ways 17 = .ok (.invokevirtual 28, 3) by decide +kernel) rfl (by decide) (by decide +kernel) rfl rfl wd_171 wd_172 wd_173 wd_174 wd_175 ⟨by decide +kernel, by decide +kernel, by decide +kernel⟩ (by decide))))
    (ok_node
    (ok_leaf (ok_callV (C := RX2) (T := TX2) (N := 7) (Mc := M_X2_letterAt) (show decode cX6_ways 20 = .ok (.invokevirtual 32, 3) by decide +kernel) rfl (by decide) (by decide +kernel) rfl rfl wd_176 wd_68 wd_69 wd_58 wd_70 ⟨by decide +kernel, by decide +kernel, by decide +kernel⟩ (by decide)))
    (ok_leaf (ok_istore_n (show decode cX6_ways 23 = .ok (.istore_n 2, 1) by decide +kernel) rfl))))))
    (ok_node
    (ok_node
    (ok_node
    (ok_leaf (ok_iconst (show decode cX6_ways 24 = .ok (.iconst 1, 1) by decide +kernel) (by decide +kernel)))
    (ok_node
    (ok_leaf (ok_iload_n (show decode cX6_ways 25 = .ok (.iload_n 2, 1) by decide +kernel) rfl))
    (ok_leaf (ok_callS (Mc := M_X5_isFlex) (show decode cX6_ways 26 = .ok (.invokestatic 35, 3) by decide +kernel) rfl (by decide) (by decide +kernel) wd_177 wd_72 wd_28 wd_73 ⟨by decide +kernel, by decide +kernel, by decide +kernel⟩ (by decide)))))
    (ok_node
    (ok_node
    (ok_leaf (ok_if_eq (show decode cX6_ways 29 = .ok (.ifCond .eq 7, 3) by decide +kernel) (by decide +kernel)))
    (ok_leaf (ok_iload_n (show decode cX6_ways 32 = .ok (.iload_n 2, 1) by decide +kernel) rfl)))
    (ok_node
    (ok_leaf (ok_goto (show decode cX6_ways 33 = .ok (.goto 15, 3) by decide +kernel) (by decide +kernel)))
    (ok_leaf (ok_aload_n (show decode cX6_ways 36 = .ok (.aload_n 0, 1) by decide +kernel) rfl)))))
    (ok_node
    (ok_node
    (ok_node
    (ok_leaf (ok_getfield (show decode cX6_ways 37 = .ok (.getfield 20, 3) by decide +kernel) (Or.inr (fdF_X6 (by decide) wd_169 rfl rfl))))
    (ok_leaf (ok_aload_n (show decode cX6_ways 40 = .ok (.aload_n 0, 1) by decide +kernel) rfl)))
    (ok_node
    (ok_leaf (ok_iload_n (show decode cX6_ways 41 = .ok (.iload_n 1, 1) by decide +kernel) rfl))
    (ok_leaf (ok_callV (C := RX6) (T := TX6) (N := 4) (Mc := M_X6_right) (show decode cX6_ways 42 = .ok (.invokevirtual 41, 3) by decide +kernel) rfl (by decide) (by decide +kernel) rfl rfl wd_178 wd_179 wd_180 wd_174 wd_181 ⟨by decide +kernel, by decide +kernel, by decide +kernel⟩ (by decide)))))
    (ok_node
    (ok_node
    (ok_leaf (ok_callV (C := RX2) (T := TX2) (N := 7) (Mc := M_X2_letterAt) (show decode cX6_ways 45 = .ok (.invokevirtual 32, 3) by decide +kernel) rfl (by decide) (by decide +kernel) rfl rfl wd_176 wd_68 wd_69 wd_58 wd_70 ⟨by decide +kernel, by decide +kernel, by decide +kernel⟩ (by decide)))
    (ok_leaf (ok_callS (Mc := M_X5_parts) (show decode cX6_ways 48 = .ok (.invokestatic 47, 3) by decide +kernel) rfl (by decide) (by decide +kernel) wd_186 wd_27 wd_28 wd_29 ⟨by decide +kernel, by decide +kernel, by decide +kernel⟩ (by decide))))
    (ok_node
    (ok_leaf (ok_iadd (show decode cX6_ways 51 = .ok (.iadd, 1) by decide +kernel)))
    (ok_leaf (ok_ireturn (show decode cX6_ways 52 = .ok (.ireturn, 1) by decide +kernel) rfl))))))
set_option maxRecDepth 20000 in
set_option maxHeartbeats 4000000 in
theorem ok_X6_howMany {sc : List Int32} : ∀ pc, pOk mtOf 189 M_X6_howMany false sc pc (cd_X6_howMany pc) := by
  unfold cd_X6_howMany
  exact ok_node
    (ok_node
    (ok_node
    (ok_node
    (ok_leaf (ok_iconst (show decode cX6_howMany 0 = .ok (.iconst 0, 1) by decide +kernel) (by decide +kernel)))
    (ok_leaf (ok_istore_n (show decode cX6_howMany 1 = .ok (.istore_n 2, 1) by decide +kernel) rfl)))
    (ok_node
    (ok_leaf (ok_iconst (show decode cX6_howMany 2 = .ok (.iconst 0, 1) by decide +kernel) (by decide +kernel)))
    (ok_node
    (ok_leaf (ok_istore_n (show decode cX6_howMany 3 = .ok (.istore_n 3, 1) by decide +kernel) rfl))
    (ok_leaf (ok_iload_n (show decode cX6_howMany 4 = .ok (.iload_n 3, 1) by decide +kernel) rfl)))))
    (ok_node
    (ok_node
    (ok_leaf (ok_aload_n (show decode cX6_howMany 5 = .ok (.aload_n 0, 1) by decide +kernel) rfl))
    (ok_leaf (ok_getfield (show decode cX6_howMany 6 = .ok (.getfield 24, 3) by decide +kernel) (Or.inl (fd_X6 (by decide) wd_170 rfl rfl)))))
    (ok_node
    (ok_leaf (ok_icmp_ge (show decode cX6_howMany 9 = .ok (.if_icmp .ge 25, 3) by decide +kernel) (by decide +kernel)))
    (ok_node
    (ok_leaf (ok_iload_n (show decode cX6_howMany 12 = .ok (.iload_n 1, 1) by decide +kernel) rfl))
    (ok_leaf (ok_if_eq (show decode cX6_howMany 13 = .ok (.ifCond .eq 12, 3) by decide +kernel) (by decide +kernel)))))))
    (ok_node
    (ok_node
    (ok_node
    (ok_leaf (ok_aload_n (show decode cX6_howMany 16 = .ok (.aload_n 0, 1) by decide +kernel) rfl))
    (ok_leaf (ok_iload_n (show decode cX6_howMany 17 = .ok (.iload_n 3, 1) by decide +kernel) rfl)))
    (ok_node
    (ok_leaf (ok_callV (C := RX6) (T := TX6) (N := 4) (Mc := M_X6_kind) (show decode cX6_howMany 18 = .ok (.invokevirtual 44, 3) by decide +kernel) rfl (by decide) (by decide +kernel) rfl rfl wd_182 wd_183 wd_184 wd_174 wd_185 ⟨by decide +kernel, by decide +kernel, by decide +kernel⟩ (by decide)))
    (ok_node
    (ok_leaf (ok_iload_n (show decode cX6_howMany 21 = .ok (.iload_n 1, 1) by decide +kernel) rfl))
    (ok_leaf (ok_icmp_ne (show decode cX6_howMany 22 = .ok (.if_icmp .ne 6, 3) by decide +kernel) (by decide +kernel))))))
    (ok_node
    (ok_node
    (ok_leaf (ok_iinc (show decode cX6_howMany 25 = .ok (.iinc 2 1, 3) by decide +kernel) (by decide +kernel)))
    (ok_leaf (ok_iinc (show decode cX6_howMany 28 = .ok (.iinc 3 1, 3) by decide +kernel) (by decide +kernel))))
    (ok_node
    (ok_leaf (ok_goto (show decode cX6_howMany 31 = .ok (.goto (-27), 3) by decide +kernel) (by decide +kernel)))
    (ok_node
    (ok_leaf (ok_iload_n (show decode cX6_howMany 34 = .ok (.iload_n 2, 1) by decide +kernel) rfl))
    (ok_leaf (ok_ireturn (show decode cX6_howMany 35 = .ok (.ireturn, 1) by decide +kernel) rfl))))))
set_option maxRecDepth 20000 in
set_option maxHeartbeats 4000000 in
theorem ok_X6_lastFlex {sc : List Int32} : ∀ pc, pOk mtOf 189 M_X6_lastFlex false sc pc (cd_X6_lastFlex pc) := by
  unfold cd_X6_lastFlex
  exact ok_node
    (ok_node
    (ok_node
    (ok_node
    (ok_node
    (ok_leaf (ok_aload_n (show decode cX6_lastFlex 0 = .ok (.aload_n 0, 1) by decide +kernel) rfl))
    (ok_leaf (ok_getfield (show decode cX6_lastFlex 1 = .ok (.getfield 20, 3) by decide +kernel) (Or.inr (fdF_X6 (by decide) wd_169 rfl rfl)))))
    (ok_node
    (ok_leaf (ok_aload_n (show decode cX6_lastFlex 4 = .ok (.aload_n 0, 1) by decide +kernel) rfl))
    (ok_node
    (ok_leaf (ok_iload_n (show decode cX6_lastFlex 5 = .ok (.iload_n 1, 1) by decide +kernel) rfl))
    (ok_leaf (ok_callV (C := RX6) (T := TX6) (N := 4) (Mc := M_X6_left) (show decode cX6_lastFlex 6 = .ok (.invokevirtual 28, 3) by decide +kernel) rfl (by decide) (by decide +kernel) rfl rfl wd_171 wd_172 wd_173 wd_174 wd_175 ⟨by decide +kernel, by decide +kernel, by decide +kernel⟩ (by decide))))))
    (ok_node
    (ok_node
    (ok_leaf (ok_aload_n (show decode cX6_lastFlex 9 = .ok (.aload_n 0, 1) by decide +kernel) rfl))
    (ok_node
    (ok_leaf (ok_getfield (show decode cX6_lastFlex 10 = .ok (.getfield 20, 3) by decide +kernel) (Or.inr (fdF_X6 (by decide) wd_169 rfl rfl))))
    (ok_leaf (ok_aload_n (show decode cX6_lastFlex 13 = .ok (.aload_n 0, 1) by decide +kernel) rfl))))
    (ok_node
    (ok_leaf (ok_iload_n (show decode cX6_lastFlex 14 = .ok (.iload_n 1, 1) by decide +kernel) rfl))
    (ok_node
    (ok_leaf (ok_callV (C := RX6) (T := TX6) (N := 4) (Mc := M_X6_left) (show decode cX6_lastFlex 15 = .ok (.invokevirtual 28, 3) by decide +kernel) rfl (by decide) (by decide +kernel) rfl rfl wd_171 wd_172 wd_173 wd_174 wd_175 ⟨by decide +kernel, by decide +kernel, by decide +kernel⟩ (by decide)))
    (ok_leaf (ok_callV (C := RX2) (T := TX2) (N := 7) (Mc := M_X2_nodesAt) (show decode cX6_lastFlex 18 = .ok (.invokevirtual 50, 3) by decide +kernel) rfl (by decide) (by decide +kernel) rfl rfl wd_187 wd_90 wd_91 wd_58 wd_92 ⟨by decide +kernel, by decide +kernel, by decide +kernel⟩ (by decide)))))))
    (ok_node
    (ok_node
    (ok_node
    (ok_leaf (ok_callV (C := RX2) (T := TX2) (N := 7) (Mc := M_X2_flexIn) (show decode cX6_lastFlex 21 = .ok (.invokevirtual 53, 3) by decide +kernel) rfl (by decide) (by decide +kernel) rfl rfl wd_188 wd_189 wd_190 wd_58 wd_191 ⟨by decide +kernel, by decide +kernel, by decide +kernel⟩ (by decide)))
    (ok_leaf (ok_aload_n (show decode cX6_lastFlex 24 = .ok (.aload_n 0, 1) by decide +kernel) rfl)))
    (ok_node
    (ok_leaf (ok_getfield (show decode cX6_lastFlex 25 = .ok (.getfield 20, 3) by decide +kernel) (Or.inr (fdF_X6 (by decide) wd_169 rfl rfl))))
    (ok_node
    (ok_leaf (ok_aload_n (show decode cX6_lastFlex 28 = .ok (.aload_n 0, 1) by decide +kernel) rfl))
    (ok_leaf (ok_iload_n (show decode cX6_lastFlex 29 = .ok (.iload_n 1, 1) by decide +kernel) rfl)))))
    (ok_node
    (ok_node
    (ok_leaf (ok_callV (C := RX6) (T := TX6) (N := 4) (Mc := M_X6_right) (show decode cX6_lastFlex 30 = .ok (.invokevirtual 41, 3) by decide +kernel) rfl (by decide) (by decide +kernel) rfl rfl wd_178 wd_179 wd_180 wd_174 wd_181 ⟨by decide +kernel, by decide +kernel, by decide +kernel⟩ (by decide)))
    (ok_node
    (ok_leaf (ok_aload_n (show decode cX6_lastFlex 33 = .ok (.aload_n 0, 1) by decide +kernel) rfl))
    (ok_leaf (ok_getfield (show decode cX6_lastFlex 34 = .ok (.getfield 20, 3) by decide +kernel) (Or.inr (fdF_X6 (by decide) wd_169 rfl rfl))))))
    (ok_node
    (ok_leaf (ok_aload_n (show decode cX6_lastFlex 37 = .ok (.aload_n 0, 1) by decide +kernel) rfl))
    (ok_node
    (ok_leaf (ok_iload_n (show decode cX6_lastFlex 38 = .ok (.iload_n 1, 1) by decide +kernel) rfl))
    (ok_leaf (ok_callV (C := RX6) (T := TX6) (N := 4) (Mc := M_X6_right) (show decode cX6_lastFlex 39 = .ok (.invokevirtual 41, 3) by decide +kernel) rfl (by decide) (by decide +kernel) rfl rfl wd_178 wd_179 wd_180 wd_174 wd_181 ⟨by decide +kernel, by decide +kernel, by decide +kernel⟩ (by decide))))))))
    (ok_node
    (ok_node
    (ok_node
    (ok_node
    (ok_leaf (ok_callV (C := RX2) (T := TX2) (N := 7) (Mc := M_X2_nodesAt) (show decode cX6_lastFlex 42 = .ok (.invokevirtual 50, 3) by decide +kernel) rfl (by decide) (by decide +kernel) rfl rfl wd_187 wd_90 wd_91 wd_58 wd_92 ⟨by decide +kernel, by decide +kernel, by decide +kernel⟩ (by decide)))
    (ok_leaf (ok_callV (C := RX2) (T := TX2) (N := 7) (Mc := M_X2_flexIn) (show decode cX6_lastFlex 45 = .ok (.invokevirtual 53, 3) by decide +kernel) rfl (by decide) (by decide +kernel) rfl rfl wd_188 wd_189 wd_190 wd_58 wd_191 ⟨by decide +kernel, by decide +kernel, by decide +kernel⟩ (by decide))))
    (ok_node
    (ok_leaf (ok_ior (show decode cX6_lastFlex 48 = .ok (.ior, 1) by decide +kernel)))
    (ok_node
    (ok_leaf (ok_istore_n (show decode cX6_lastFlex 49 = .ok (.istore_n 2, 1) by decide +kernel) rfl))
    (ok_leaf (ok_iconst (show decode cX6_lastFlex 50 = .ok (.iconst (-1), 1) by decide +kernel) (by decide +kernel))))))
    (ok_node
    (ok_node
    (ok_leaf (ok_istore_n (show decode cX6_lastFlex 51 = .ok (.istore_n 3, 1) by decide +kernel) rfl))
    (ok_node
    (ok_leaf (ok_iconst (show decode cX6_lastFlex 52 = .ok (.iconst 0, 1) by decide +kernel) (by decide +kernel)))
    (ok_leaf (ok_istore (show decode cX6_lastFlex 53 = .ok (.istore 4, 2) by decide +kernel)))))
    (ok_node
    (ok_leaf (ok_iload (show decode cX6_lastFlex 55 = .ok (.iload 4, 2) by decide +kernel)))
    (ok_node
    (ok_leaf (ok_bipush (show decode cX6_lastFlex 57 = .ok (.bipush 6, 2) by decide +kernel) (by decide +kernel)))
    (ok_leaf (ok_icmp_ge (show decode cX6_lastFlex 59 = .ok (.if_icmp .ge 21, 3) by decide +kernel) (by decide +kernel)))))))
    (ok_node
    (ok_node
    (ok_node
    (ok_leaf (ok_iload_n (show decode cX6_lastFlex 62 = .ok (.iload_n 2, 1) by decide +kernel) rfl))
    (ok_node
    (ok_leaf (ok_iload (show decode cX6_lastFlex 63 = .ok (.iload 4, 2) by decide +kernel)))
    (ok_leaf (ok_ishr (show decode cX6_lastFlex 65 = .ok (.ishr, 1) by decide +kernel)))))
    (ok_node
    (ok_leaf (ok_iconst (show decode cX6_lastFlex 66 = .ok (.iconst 1, 1) by decide +kernel) (by decide +kernel)))
    (ok_node
    (ok_leaf (ok_iand (show decode cX6_lastFlex 67 = .ok (.iand, 1) by decide +kernel)))
    (ok_leaf (ok_if_eq (show decode cX6_lastFlex 68 = .ok (.ifCond .eq 6, 3) by decide +kernel) (by decide +kernel))))))
    (ok_node
    (ok_node
    (ok_leaf (ok_iload (show decode cX6_lastFlex 71 = .ok (.iload 4, 2) by decide +kernel)))
    (ok_node
    (ok_leaf (ok_istore_n (show decode cX6_lastFlex 73 = .ok (.istore_n 3, 1) by decide +kernel) rfl))
    (ok_leaf (ok_iinc (show decode cX6_lastFlex 74 = .ok (.iinc 4 1, 3) by decide +kernel) (by decide +kernel)))))
    (ok_node
    (ok_leaf (ok_goto (show decode cX6_lastFlex 77 = .ok (.goto (-22), 3) by decide +kernel) (by decide +kernel)))
    (ok_node
    (ok_leaf (ok_iload_n (show decode cX6_lastFlex 80 = .ok (.iload_n 3, 1) by decide +kernel) rfl))
    (ok_leaf (ok_ireturn (show decode cX6_lastFlex 81 = .ok (.ireturn, 1) by decide +kernel) rfl)))))))
set_option maxRecDepth 20000 in
set_option maxHeartbeats 4000000 in
theorem ok_X6_takeApart {sc : List Int32} : ∀ pc, pOk mtOf 189 M_X6_takeApart false sc pc (cd_X6_takeApart pc) := by
  unfold cd_X6_takeApart
  exact ok_node
    (ok_node
    (ok_node
    (ok_node
    (ok_leaf (ok_aload_n (show decode cX6_takeApart 0 = .ok (.aload_n 0, 1) by decide +kernel) rfl))
    (ok_node
    (ok_leaf (ok_iconst (show decode cX6_takeApart 1 = .ok (.iconst 0, 1) by decide +kernel) (by decide +kernel)))
    (ok_leaf (ok_putI (show decode cX6_takeApart 2 = .ok (.putfield 24, 3) by decide +kernel) (Or.inl (fd_X6 (by decide) wd_170 rfl rfl)) rfl))))
    (ok_node
    (ok_leaf (ok_iconst (show decode cX6_takeApart 5 = .ok (.iconst 0, 1) by decide +kernel) (by decide +kernel)))
    (ok_node
    (ok_leaf (ok_istore_n (show decode cX6_takeApart 6 = .ok (.istore_n 1, 1) by decide +kernel) rfl))
    (ok_leaf (ok_iload_n (show decode cX6_takeApart 7 = .ok (.iload_n 1, 1) by decide +kernel) rfl)))))
    (ok_node
    (ok_node
    (ok_leaf (ok_aload_n (show decode cX6_takeApart 8 = .ok (.aload_n 0, 1) by decide +kernel) rfl))
    (ok_node
    (ok_leaf (ok_getfield (show decode cX6_takeApart 9 = .ok (.getfield 20, 3) by decide +kernel) (Or.inr (fdF_X6 (by decide) wd_169 rfl rfl))))
    (ok_leaf (ok_callV (C := RX2) (T := TX2) (N := 7) (Mc := M_X2_count) (show decode cX6_takeApart 12 = .ok (.invokevirtual 57, 3) by decide +kernel) rfl (by decide) (by decide +kernel) rfl rfl wd_192 wd_56 wd_57 wd_58 wd_59 ⟨by decide +kernel, by decide +kernel, by decide +kernel⟩ (by decide)))))
    (ok_node
    (ok_leaf (ok_icmp_ge (show decode cX6_takeApart 15 = .ok (.if_icmp .ge 31, 3) by decide +kernel) (by decide +kernel)))
    (ok_node
    (ok_leaf (ok_aload_n (show decode cX6_takeApart 18 = .ok (.aload_n 0, 1) by decide +kernel) rfl))
    (ok_leaf (ok_aload_n (show decode cX6_takeApart 19 = .ok (.aload_n 0, 1) by decide +kernel) rfl))))))
    (ok_node
    (ok_node
    (ok_node
    (ok_leaf (ok_getfield (show decode cX6_takeApart 20 = .ok (.getfield 20, 3) by decide +kernel) (Or.inr (fdF_X6 (by decide) wd_169 rfl rfl))))
    (ok_node
    (ok_leaf (ok_iload_n (show decode cX6_takeApart 23 = .ok (.iload_n 1, 1) by decide +kernel) rfl))
    (ok_leaf (ok_iconst (show decode cX6_takeApart 24 = .ok (.iconst 0, 1) by decide +kernel) (by decide +kernel)))))
    (ok_node
    (ok_leaf (ok_callV (C := RX2) (T := TX2) (N := 7) (Mc := M_X2_start) (show decode cX6_takeApart 25 = .ok (.invokevirtual 60, 3) by decide +kernel) rfl (by decide) (by decide +kernel) rfl rfl wd_193 wd_194 wd_195 wd_58 wd_196 ⟨by decide +kernel, by decide +kernel, by decide +kernel⟩ (by decide)))
    (ok_node
    (ok_leaf (ok_aload_n (show decode cX6_takeApart 28 = .ok (.aload_n 0, 1) by decide +kernel) rfl))
    (ok_leaf (ok_getfield (show decode cX6_takeApart 29 = .ok (.getfield 20, 3) by decide +kernel) (Or.inr (fdF_X6 (by decide) wd_169 rfl rfl)))))))
    (ok_node
    (ok_node
    (ok_leaf (ok_iload_n (show decode cX6_takeApart 32 = .ok (.iload_n 1, 1) by decide +kernel) rfl))
    (ok_node
    (ok_leaf (ok_iconst (show decode cX6_takeApart 33 = .ok (.iconst 1, 1) by decide +kernel) (by decide +kernel)))
    (ok_leaf (ok_callV (C := RX2) (T := TX2) (N := 7) (Mc := M_X2_start) (show decode cX6_takeApart 34 = .ok (.invokevirtual 60, 3) by decide +kernel) rfl (by decide) (by decide +kernel) rfl rfl wd_193 wd_194 wd_195 wd_58 wd_196 ⟨by decide +kernel, by decide +kernel, by decide +kernel⟩ (by decide)))))
    (ok_node
    (ok_node
    (ok_leaf (ok_callV (C := RX6) (T := TX6) (N := 4) (Mc := M_X6_takeApart_) (show decode cX6_takeApart 37 = .ok (.invokevirtual 63, 3) by decide +kernel) rfl (by decide) (by decide +kernel) rfl rfl wd_197 wd_198 wd_199 wd_174 wd_200 ⟨by decide +kernel, by decide +kernel, by decide +kernel⟩ (by decide)))
    (ok_leaf (ok_iinc (show decode cX6_takeApart 40 = .ok (.iinc 1 1, 3) by decide +kernel) (by decide +kernel))))
    (ok_node
    (ok_leaf (ok_goto (show decode cX6_takeApart 43 = .ok (.goto (-36), 3) by decide +kernel) (by decide +kernel)))
    (ok_leaf (ok_return (show decode cX6_takeApart 46 = .ok (.return_, 1) by decide +kernel) rfl))))))
set_option maxRecDepth 20000 in
set_option maxHeartbeats 4000000 in
theorem ok_X6_takeApart_ {sc : List Int32} : ∀ pc, pOk mtOf 189 M_X6_takeApart_ false sc pc (cd_X6_takeApart_ pc) := by
  unfold cd_X6_takeApart_
  exact ok_node
    (ok_node
    (ok_node
    (ok_node
    (ok_node
    (ok_leaf (ok_iload_n (show decode cX6_takeApart_ 0 = .ok (.iload_n 1, 1) by decide +kernel) rfl))
    (ok_node
    (ok_leaf (ok_aload_n (show decode cX6_takeApart_ 1 = .ok (.aload_n 0, 1) by decide +kernel) rfl))
    (ok_leaf (ok_getfield (show decode cX6_takeApart_ 2 = .ok (.getfield 20, 3) by decide +kernel) (Or.inr (fdF_X6 (by decide) wd_169 rfl rfl))))))
    (ok_node
    (ok_node
    (ok_leaf (ok_iload_n (show decode cX6_takeApart_ 5 = .ok (.iload_n 1, 1) by decide +kernel) rfl))
    (ok_leaf (ok_callV (C := RX2) (T := TX2) (N := 7) (Mc := M_X2_nodesAt) (show decode cX6_takeApart_ 6 = .ok (.invokevirtual 50, 3) by decide +kernel) rfl (by decide) (by decide +kernel) rfl rfl wd_187 wd_90 wd_91 wd_58 wd_92 ⟨by decide +kernel, by decide +kernel, by decide +kernel⟩ (by decide))))
    (ok_node
    (ok_leaf (ok_iadd (show decode cX6_takeApart_ 9 = .ok (.iadd, 1) by decide +kernel)))
    (ok_leaf (ok_istore_n (show decode cX6_takeApart_ 10 = .ok (.istore_n 3, 1) by decide +kernel) rfl)))))
    (ok_node
    (ok_node
    (ok_leaf (ok_iload_n (show decode cX6_takeApart_ 11 = .ok (.iload_n 1, 1) by decide +kernel) rfl))
    (ok_node
    (ok_leaf (ok_istore (show decode cX6_takeApart_ 12 = .ok (.istore 4, 2) by decide +kernel)))
    (ok_leaf (ok_iload_n (show decode cX6_takeApart_ 14 = .ok (.iload_n 2, 1) by decide +kernel) rfl))))
    (ok_node
    (ok_node
    (ok_leaf (ok_istore (show decode cX6_takeApart_ 15 = .ok (.istore 5, 2) by decide +kernel)))
    (ok_leaf (ok_iconst (show decode cX6_takeApart_ 17 = .ok (.iconst 0, 1) by decide +kernel) (by decide +kernel))))
    (ok_node
    (ok_leaf (ok_istore (show decode cX6_takeApart_ 18 = .ok (.istore 6, 2) by decide +kernel)))
    (ok_leaf (ok_iload (show decode cX6_takeApart_ 20 = .ok (.iload 6, 2) by decide +kernel)))))))
    (ok_node
    (ok_node
    (ok_node
    (ok_leaf (ok_bipush (show decode cX6_takeApart_ 22 = .ok (.bipush 20, 2) by decide +kernel) (by decide +kernel)))
    (ok_node
    (ok_leaf (ok_icmp_ge (show decode cX6_takeApart_ 24 = .ok (.if_icmp .ge 93, 3) by decide +kernel) (by decide +kernel)))
    (ok_leaf (ok_iload (show decode cX6_takeApart_ 27 = .ok (.iload 4, 2) by decide +kernel)))))
    (ok_node
    (ok_node
    (ok_leaf (ok_iload_n (show decode cX6_takeApart_ 29 = .ok (.iload_n 3, 1) by decide +kernel) rfl))
    (ok_leaf (ok_icmp_ge (show decode cX6_takeApart_ 30 = .ok (.if_icmp .ge 87, 3) by decide +kernel) (by decide +kernel))))
    (ok_node
    (ok_leaf (ok_aload_n (show decode cX6_takeApart_ 33 = .ok (.aload_n 0, 1) by decide +kernel) rfl))
    (ok_leaf (ok_getfield (show decode cX6_takeApart_ 34 = .ok (.getfield 20, 3) by decide +kernel) (Or.inr (fdF_X6 (by decide) wd_169 rfl rfl)))))))
    (ok_node
    (ok_node
    (ok_leaf (ok_iload (show decode cX6_takeApart_ 37 = .ok (.iload 4, 2) by decide +kernel)))
    (ok_node
    (ok_leaf (ok_callV (C := RX2) (T := TX2) (N := 7) (Mc := M_X2_letterAt) (show decode cX6_takeApart_ 39 = .ok (.invokevirtual 32, 3) by decide +kernel) rfl (by decide) (by decide +kernel) rfl rfl wd_176 wd_68 wd_69 wd_58 wd_70 ⟨by decide +kernel, by decide +kernel, by decide +kernel⟩ (by decide)))
    (ok_leaf (ok_istore (show decode cX6_takeApart_ 42 = .ok (.istore 7, 2) by decide +kernel)))))
    (ok_node
    (ok_node
    (ok_leaf (ok_iload (show decode cX6_takeApart_ 44 = .ok (.iload 7, 2) by decide +kernel)))
    (ok_leaf (ok_aload_n (show decode cX6_takeApart_ 46 = .ok (.aload_n 0, 1) by decide +kernel) rfl)))
    (ok_node
    (ok_leaf (ok_getfield (show decode cX6_takeApart_ 47 = .ok (.getfield 20, 3) by decide +kernel) (Or.inr (fdF_X6 (by decide) wd_169 rfl rfl))))
    (ok_leaf (ok_iload (show decode cX6_takeApart_ 50 = .ok (.iload 5, 2) by decide +kernel))))))))
    (ok_node
    (ok_node
    (ok_node
    (ok_node
    (ok_leaf (ok_callV (C := RX2) (T := TX2) (N := 7) (Mc := M_X2_letterAt) (show decode cX6_takeApart_ 52 = .ok (.invokevirtual 32, 3) by decide +kernel) rfl (by decide) (by decide +kernel) rfl rfl wd_176 wd_68 wd_69 wd_58 wd_70 ⟨by decide +kernel, by decide +kernel, by decide +kernel⟩ (by decide)))
    (ok_node
    (ok_leaf (ok_icmp_ne (show decode cX6_takeApart_ 55 = .ok (.if_icmp .ne 20, 3) by decide +kernel) (by decide +kernel)))
    (ok_leaf (ok_iload (show decode cX6_takeApart_ 58 = .ok (.iload 7, 2) by decide +kernel)))))
    (ok_node
    (ok_node
    (ok_leaf (ok_callS (Mc := M_X5_isFlex) (show decode cX6_takeApart_ 60 = .ok (.invokestatic 35, 3) by decide +kernel) rfl (by decide) (by decide +kernel) wd_177 wd_72 wd_28 wd_73 ⟨by decide +kernel, by decide +kernel, by decide +kernel⟩ (by decide)))
    (ok_leaf (ok_if_ne (show decode cX6_takeApart_ 63 = .ok (.ifCond .ne 12, 3) by decide +kernel) (by decide +kernel))))
    (ok_node
    (ok_leaf (ok_iinc (show decode cX6_takeApart_ 66 = .ok (.iinc 4 1, 3) by decide +kernel) (by decide +kernel)))
    (ok_leaf (ok_iinc (show decode cX6_takeApart_ 69 = .ok (.iinc 5 1, 3) by decide +kernel) (by decide +kernel))))))
    (ok_node
    (ok_node
    (ok_leaf (ok_goto (show decode cX6_takeApart_ 72 = .ok (.goto 39, 3) by decide +kernel) (by decide +kernel)))
    (ok_node
    (ok_leaf (ok_aload_n (show decode cX6_takeApart_ 75 = .ok (.aload_n 0, 1) by decide +kernel) rfl))
    (ok_leaf (ok_iload (show decode cX6_takeApart_ 76 = .ok (.iload 4, 2) by decide +kernel)))))
    (ok_node
    (ok_node
    (ok_leaf (ok_iload (show decode cX6_takeApart_ 78 = .ok (.iload 5, 2) by decide +kernel)))
    (ok_leaf (ok_callV (C := RX6) (T := TX6) (N := 4) (Mc := M_X6_keep) (show decode cX6_takeApart_ 80 = .ok (.invokevirtual 67, 3) by decide +kernel) rfl (by decide) (by decide +kernel) rfl rfl wd_201 wd_202 wd_203 wd_174 wd_204 ⟨by decide +kernel, by decide +kernel, by decide +kernel⟩ (by decide))))
    (ok_node
    (ok_leaf (ok_iload (show decode cX6_takeApart_ 83 = .ok (.iload 4, 2) by decide +kernel)))
    (ok_leaf (ok_aload_n (show decode cX6_takeApart_ 85 = .ok (.aload_n 0, 1) by decide +kernel) rfl))))))
    (ok_node
    (ok_node
    (ok_node
    (ok_leaf (ok_getfield (show decode cX6_takeApart_ 86 = .ok (.getfield 20, 3) by decide +kernel) (Or.inr (fdF_X6 (by decide) wd_169 rfl rfl))))
    (ok_node
    (ok_leaf (ok_iload (show decode cX6_takeApart_ 89 = .ok (.iload 4, 2) by decide +kernel)))
    (ok_leaf (ok_callV (C := RX2) (T := TX2) (N := 7) (Mc := M_X2_nodesAt) (show decode cX6_takeApart_ 91 = .ok (.invokevirtual 50, 3) by decide +kernel) rfl (by decide) (by decide +kernel) rfl rfl wd_187 wd_90 wd_91 wd_58 wd_92 ⟨by decide +kernel, by decide +kernel, by decide +kernel⟩ (by decide)))))
    (ok_node
    (ok_node
    (ok_leaf (ok_iadd (show decode cX6_takeApart_ 94 = .ok (.iadd, 1) by decide +kernel)))
    (ok_leaf (ok_istore (show decode cX6_takeApart_ 95 = .ok (.istore 4, 2) by decide +kernel))))
    (ok_node
    (ok_leaf (ok_iload (show decode cX6_takeApart_ 97 = .ok (.iload 5, 2) by decide +kernel)))
    (ok_leaf (ok_aload_n (show decode cX6_takeApart_ 99 = .ok (.aload_n 0, 1) by decide +kernel) rfl)))))
    (ok_node
    (ok_node
    (ok_node
    (ok_leaf (ok_getfield (show decode cX6_takeApart_ 100 = .ok (.getfield 20, 3) by decide +kernel) (Or.inr (fdF_X6 (by decide) wd_169 rfl rfl))))
    (ok_leaf (ok_iload (show decode cX6_takeApart_ 103 = .ok (.iload 5, 2) by decide +kernel))))
    (ok_node
    (ok_leaf (ok_callV (C := RX2) (T := TX2) (N := 7) (Mc := M_X2_nodesAt) (show decode cX6_takeApart_ 105 = .ok (.invokevirtual 50, 3) by decide +kernel) rfl (by decide) (by decide +kernel) rfl rfl wd_187 wd_90 wd_91 wd_58 wd_92 ⟨by decide +kernel, by decide +kernel, by decide +kernel⟩ (by decide)))
    (ok_leaf (ok_iadd (show decode cX6_takeApart_ 108 = .ok (.iadd, 1) by decide +kernel)))))
    (ok_node
    (ok_node
    (ok_leaf (ok_istore (show decode cX6_takeApart_ 109 = .ok (.istore 5, 2) by decide +kernel)))
    (ok_leaf (ok_iinc (show decode cX6_takeApart_ 111 = .ok (.iinc 6 1, 3) by decide +kernel) (by decide +kernel))))
    (ok_node
    (ok_leaf (ok_goto (show decode cX6_takeApart_ 114 = .ok (.goto (-94), 3) by decide +kernel) (by decide +kernel)))
    (ok_leaf (ok_return (show decode cX6_takeApart_ 117 = .ok (.return_, 1) by decide +kernel) rfl)))))))
set_option maxRecDepth 20000 in
set_option maxHeartbeats 4000000 in
theorem ok_X6_keep {sc : List Int32} : ∀ pc, pOk mtOf 189 M_X6_keep false sc pc (cd_X6_keep pc) := by
  unfold cd_X6_keep
  exact ok_node
    (ok_node
    (ok_node
    (ok_node
    (ok_leaf (ok_aload_n (show decode cX6_keep 0 = .ok (.aload_n 0, 1) by decide +kernel) rfl))
    (ok_leaf (ok_getfield (show decode cX6_keep 1 = .ok (.getfield 24, 3) by decide +kernel) (Or.inl (fd_X6 (by decide) wd_170 rfl rfl)))))
    (ok_node
    (ok_leaf (ok_bipush (show decode cX6_keep 4 = .ok (.bipush 20, 2) by decide +kernel) (by decide +kernel)))
    (ok_node
    (ok_leaf (ok_icmp_ge (show decode cX6_keep 6 = .ok (.if_icmp .ge 33, 3) by decide +kernel) (by decide +kernel)))
    (ok_leaf (ok_aload_n (show decode cX6_keep 9 = .ok (.aload_n 0, 1) by decide +kernel) rfl)))))
    (ok_node
    (ok_node
    (ok_leaf (ok_getfield (show decode cX6_keep 10 = .ok (.getfield 13, 3) by decide +kernel) (Or.inr (fdF_X6 (by decide) wd_167 rfl rfl))))
    (ok_node
    (ok_leaf (ok_aload_n (show decode cX6_keep 13 = .ok (.aload_n 0, 1) by decide +kernel) rfl))
    (ok_leaf (ok_getfield (show decode cX6_keep 14 = .ok (.getfield 24, 3) by decide +kernel) (Or.inl (fd_X6 (by decide) wd_170 rfl rfl))))))
    (ok_node
    (ok_leaf (ok_iload_n (show decode cX6_keep 17 = .ok (.iload_n 1, 1) by decide +kernel) rfl))
    (ok_node
    (ok_leaf (ok_iastore (show decode cX6_keep 18 = .ok (.iastore, 1) by decide +kernel)))
    (ok_leaf (ok_aload_n (show decode cX6_keep 19 = .ok (.aload_n 0, 1) by decide +kernel) rfl))))))
    (ok_node
    (ok_node
    (ok_node
    (ok_leaf (ok_getfield (show decode cX6_keep 20 = .ok (.getfield 17, 3) by decide +kernel) (Or.inr (fdF_X6 (by decide) wd_168 rfl rfl))))
    (ok_node
    (ok_leaf (ok_aload_n (show decode cX6_keep 23 = .ok (.aload_n 0, 1) by decide +kernel) rfl))
    (ok_leaf (ok_getfield (show decode cX6_keep 24 = .ok (.getfield 24, 3) by decide +kernel) (Or.inl (fd_X6 (by decide) wd_170 rfl rfl))))))
    (ok_node
    (ok_leaf (ok_iload_n (show decode cX6_keep 27 = .ok (.iload_n 2, 1) by decide +kernel) rfl))
    (ok_node
    (ok_leaf (ok_iastore (show decode cX6_keep 28 = .ok (.iastore, 1) by decide +kernel)))
    (ok_leaf (ok_aload_n (show decode cX6_keep 29 = .ok (.aload_n 0, 1) by decide +kernel) rfl)))))
    (ok_node
    (ok_node
    (ok_leaf (ok_dup (show decode cX6_keep 30 = .ok (.dup, 1) by decide +kernel)))
    (ok_node
    (ok_leaf (ok_getfield (show decode cX6_keep 31 = .ok (.getfield 24, 3) by decide +kernel) (Or.inl (fd_X6 (by decide) wd_170 rfl rfl))))
    (ok_leaf (ok_iconst (show decode cX6_keep 34 = .ok (.iconst 1, 1) by decide +kernel) (by decide +kernel)))))
    (ok_node
    (ok_leaf (ok_iadd (show decode cX6_keep 35 = .ok (.iadd, 1) by decide +kernel)))
    (ok_node
    (ok_leaf (ok_putI (show decode cX6_keep 36 = .ok (.putfield 24, 3) by decide +kernel) (Or.inl (fd_X6 (by decide) wd_170 rfl rfl)) rfl))
    (ok_leaf (ok_return (show decode cX6_keep 39 = .ok (.return_, 1) by decide +kernel) rfl))))))
set_option maxRecDepth 20000 in
set_option maxHeartbeats 4000000 in
theorem ok_X7_init {sc : List Int32} : ∀ pc, pOk mtOf 189 M_X7_init false sc pc (cd_X7_init pc) := by
  unfold cd_X7_init
  exact ok_node
    (ok_node
    (ok_node
    (ok_node
    (ok_leaf (ok_aload_n (show decode cX7_init 0 = .ok (.aload_n 0, 1) by decide +kernel) rfl))
    (ok_node
    (ok_leaf (ok_obj (show decode cX7_init 1 = .ok (.invokespecial 3, 3) by decide +kernel) wd_205 wd_1 wd_2))
    (ok_leaf (ok_aload_n (show decode cX7_init 4 = .ok (.aload_n 0, 1) by decide +kernel) rfl))))
    (ok_node
    (ok_leaf (ok_bipush (show decode cX7_init 5 = .ok (.bipush 6, 2) by decide +kernel) (by decide +kernel)))
    (ok_node
    (ok_leaf (ok_newarray (show decode cX7_init 7 = .ok (.newarray .int, 2) by decide +kernel) wd_3))
    (ok_leaf (ok_putR (show decode cX7_init 9 = .ok (.putfield 11, 3) by decide +kernel) (Or.inr ⟨fdF_X7 (by decide) wd_206 rfl rfl, rfl, fun r hr => by cases hr; rfl⟩) (Or.inr ⟨_, rfl⟩))))))
    (ok_node
    (ok_node
    (ok_leaf (ok_aload_n (show decode cX7_init 12 = .ok (.aload_n 0, 1) by decide +kernel) rfl))
    (ok_node
    (ok_leaf (ok_bipush (show decode cX7_init 13 = .ok (.bipush 20, 2) by decide +kernel) (by decide +kernel)))
    (ok_leaf (ok_newarray (show decode cX7_init 15 = .ok (.newarray .int, 2) by decide +kernel) wd_3))))
    (ok_node
    (ok_node
    (ok_leaf (ok_putR (show decode cX7_init 17 = .ok (.putfield 19, 3) by decide +kernel) (Or.inr ⟨fdF_X7 (by decide) wd_207 rfl rfl, rfl, fun r hr => by cases hr; rfl⟩) (Or.inr ⟨_, rfl⟩)))
    (ok_leaf (ok_aload_n (show decode cX7_init 20 = .ok (.aload_n 0, 1) by decide +kernel) rfl)))
    (ok_node
    (ok_leaf (ok_sipush (show decode cX7_init 21 = .ok (.sipush 240, 3) by decide +kernel) (by decide +kernel)))
    (ok_leaf (ok_newarray (show decode cX7_init 24 = .ok (.newarray .int, 2) by decide +kernel) wd_3))))))
    (ok_node
    (ok_node
    (ok_node
    (ok_leaf (ok_putR (show decode cX7_init 26 = .ok (.putfield 22, 3) by decide +kernel) (Or.inr ⟨fdF_X7 (by decide) wd_208 rfl rfl, rfl, fun r hr => by cases hr; rfl⟩) (Or.inr ⟨_, rfl⟩)))
    (ok_node
    (ok_leaf (ok_aload_n (show decode cX7_init 29 = .ok (.aload_n 0, 1) by decide +kernel) rfl))
    (ok_leaf (ok_aload_n (show decode cX7_init 30 = .ok (.aload_n 1, 1) by decide +kernel) rfl))))
    (ok_node
    (ok_node
    (ok_leaf (ok_putR (show decode cX7_init 31 = .ok (.putfield 25, 3) by decide +kernel) (Or.inr ⟨fdF_X7 (by decide) wd_209 rfl rfl, rfl, fun r hr => by cases hr; rfl⟩) (Or.inl ⟨_, rfl⟩)))
    (ok_leaf (ok_aload_n (show decode cX7_init 34 = .ok (.aload_n 0, 1) by decide +kernel) rfl)))
    (ok_node
    (ok_leaf (ok_aload_n (show decode cX7_init 35 = .ok (.aload_n 2, 1) by decide +kernel) rfl))
    (ok_leaf (ok_putR (show decode cX7_init 36 = .ok (.putfield 29, 3) by decide +kernel) (Or.inr ⟨fdF_X7 (by decide) wd_210 rfl rfl, rfl, fun r hr => by cases hr; rfl⟩) (Or.inl ⟨_, rfl⟩))))))
    (ok_node
    (ok_node
    (ok_leaf (ok_aload_n (show decode cX7_init 39 = .ok (.aload_n 0, 1) by decide +kernel) rfl))
    (ok_node
    (ok_leaf (ok_aload_n (show decode cX7_init 40 = .ok (.aload_n 3, 1) by decide +kernel) rfl))
    (ok_leaf (ok_putR (show decode cX7_init 41 = .ok (.putfield 33, 3) by decide +kernel) (Or.inr ⟨fdF_X7 (by decide) wd_211 rfl rfl, rfl, fun r hr => by cases hr; rfl⟩) (Or.inl ⟨_, rfl⟩)))))
    (ok_node
    (ok_node
    (ok_leaf (ok_aload_n (show decode cX7_init 44 = .ok (.aload_n 0, 1) by decide +kernel) rfl))
    (ok_leaf (ok_aload (show decode cX7_init 45 = .ok (.aload 4, 2) by decide +kernel))))
    (ok_node
    (ok_leaf (ok_putR (show decode cX7_init 47 = .ok (.putfield 37, 3) by decide +kernel) (Or.inr ⟨fdF_X7 (by decide) wd_212 rfl rfl, rfl, fun r hr => by cases hr; rfl⟩) (Or.inl ⟨_, rfl⟩)))
    (ok_leaf (ok_return (show decode cX7_init 50 = .ok (.return_, 1) by decide +kernel) rfl))))))
set_option maxRecDepth 20000 in
set_option maxHeartbeats 4000000 in
theorem ok_X7_forget {sc : List Int32} : ∀ pc, pOk mtOf 189 M_X7_forget false sc pc (cd_X7_forget pc) := by
  unfold cd_X7_forget
  exact ok_node
    (ok_node
    (ok_leaf (ok_aload_n (show decode cX7_forget 0 = .ok (.aload_n 0, 1) by decide +kernel) rfl))
    (ok_leaf (ok_iconst (show decode cX7_forget 1 = .ok (.iconst 0, 1) by decide +kernel) (by decide +kernel))))
    (ok_node
    (ok_leaf (ok_putZ (show decode cX7_forget 2 = .ok (.putfield 41, 3) by decide +kernel) (Or.inl (fd_X7 (by decide) wd_213 rfl rfl)) rfl))
    (ok_leaf (ok_return (show decode cX7_forget 5 = .ok (.return_, 1) by decide +kernel) rfl)))
set_option maxRecDepth 20000 in
set_option maxHeartbeats 4000000 in
theorem ok_X7_found {sc : List Int32} : ∀ pc, pOk mtOf 189 M_X7_found false sc pc (cd_X7_found pc) := by
  unfold cd_X7_found
  exact ok_node
    (ok_node
    (ok_node
    (ok_node
    (ok_node
    (ok_leaf (ok_aload_n (show decode cX7_found 0 = .ok (.aload_n 0, 1) by decide +kernel) rfl))
    (ok_leaf (ok_getfield (show decode cX7_found 1 = .ok (.getfield 41, 3) by decide +kernel) (Or.inl (fd_X7 (by decide) wd_213 rfl rfl)))))
    (ok_node
    (ok_leaf (ok_if_eq (show decode cX7_found 4 = .ok (.ifCond .eq 8, 3) by decide +kernel) (by decide +kernel)))
    (ok_leaf (ok_aload_n (show decode cX7_found 7 = .ok (.aload_n 0, 1) by decide +kernel) rfl))))
    (ok_node
    (ok_node
    (ok_leaf (ok_getfield (show decode cX7_found 8 = .ok (.getfield 45, 3) by decide +kernel) (Or.inl (fd_X7 (by decide) wd_214 rfl rfl))))
    (ok_leaf (ok_ireturn (show decode cX7_found 11 = .ok (.ireturn, 1) by decide +kernel) rfl)))
    (ok_node
    (ok_leaf (ok_aload_n (show decode cX7_found 12 = .ok (.aload_n 0, 1) by decide +kernel) rfl))
    (ok_node
    (ok_leaf (ok_iconst (show decode cX7_found 13 = .ok (.iconst 1, 1) by decide +kernel) (by decide +kernel)))
    (ok_leaf (ok_putZ (show decode cX7_found 14 = .ok (.putfield 41, 3) by decide +kernel) (Or.inl (fd_X7 (by decide) wd_213 rfl rfl)) rfl))))))
    (ok_node
    (ok_node
    (ok_node
    (ok_leaf (ok_aload_n (show decode cX7_found 17 = .ok (.aload_n 0, 1) by decide +kernel) rfl))
    (ok_leaf (ok_iconst (show decode cX7_found 18 = .ok (.iconst 0, 1) by decide +kernel) (by decide +kernel))))
    (ok_node
    (ok_leaf (ok_putI (show decode cX7_found 19 = .ok (.putfield 45, 3) by decide +kernel) (Or.inl (fd_X7 (by decide) wd_214 rfl rfl)) rfl))
    (ok_node
    (ok_leaf (ok_aload_n (show decode cX7_found 22 = .ok (.aload_n 0, 1) by decide +kernel) rfl))
    (ok_leaf (ok_callV (C := RX7) (T := TX7) (N := 10) (Mc := M_X7_prepare) (show decode cX7_found 23 = .ok (.invokevirtual 49, 3) by decide +kernel) rfl (by decide) (by decide +kernel) rfl rfl wd_215 wd_216 wd_217 wd_218 wd_219 ⟨by decide +kernel, by decide +kernel, by decide +kernel⟩ (by decide))))))
    (ok_node
    (ok_node
    (ok_leaf (ok_aload_n (show decode cX7_found 26 = .ok (.aload_n 0, 1) by decide +kernel) rfl))
    (ok_leaf (ok_getfield (show decode cX7_found 27 = .ok (.getfield 29, 3) by decide +kernel) (Or.inr (fdF_X7 (by decide) wd_210 rfl rfl)))))
    (ok_node
    (ok_leaf (ok_iconst (show decode cX7_found 30 = .ok (.iconst 1, 1) by decide +kernel) (by decide +kernel)))
    (ok_node
    (ok_leaf (ok_callV (C := RX6) (T := TX6) (N := 4) (Mc := M_X6_howMany) (show decode cX7_found 31 = .ok (.invokevirtual 52, 3) by decide +kernel) rfl (by decide) (by decide +kernel) rfl rfl wd_220 wd_221 wd_222 wd_174 wd_223 ⟨by decide +kernel, by decide +kernel, by decide +kernel⟩ (by decide)))
    (ok_leaf (ok_if_ne (show decode cX7_found 34 = .ok (.ifCond .ne 8, 3) by decide +kernel) (by decide +kernel))))))))
    (ok_node
    (ok_node
    (ok_node
    (ok_node
    (ok_leaf (ok_bipush (show decode cX7_found 37 = .ok (.bipush 6, 2) by decide +kernel) (by decide +kernel)))
    (ok_leaf (ok_goto (show decode cX7_found 39 = .ok (.goto 4, 3) by decide +kernel) (by decide +kernel))))
    (ok_node
    (ok_leaf (ok_iconst (show decode cX7_found 42 = .ok (.iconst (-1), 1) by decide +kernel) (by decide +kernel)))
    (ok_leaf (ok_istore_n (show decode cX7_found 43 = .ok (.istore_n 1, 1) by decide +kernel) rfl))))
    (ok_node
    (ok_node
    (ok_leaf (ok_aload_n (show decode cX7_found 44 = .ok (.aload_n 0, 1) by decide +kernel) rfl))
    (ok_leaf (ok_getfield (show decode cX7_found 45 = .ok (.getfield 56, 3) by decide +kernel) (Or.inl (fd_X7 (by decide) wd_224 rfl rfl)))))
    (ok_node
    (ok_leaf (ok_istore_n (show decode cX7_found 48 = .ok (.istore_n 2, 1) by decide +kernel) rfl))
    (ok_node
    (ok_leaf (ok_iload_n (show decode cX7_found 49 = .ok (.iload_n 2, 1) by decide +kernel) rfl))
    (ok_leaf (ok_iload_n (show decode cX7_found 50 = .ok (.iload_n 1, 1) by decide +kernel) rfl))))))
    (ok_node
    (ok_node
    (ok_node
    (ok_leaf (ok_icmp_gt (show decode cX7_found 51 = .ok (.if_icmp .gt 15, 3) by decide +kernel) (by decide +kernel)))
    (ok_leaf (ok_aload_n (show decode cX7_found 54 = .ok (.aload_n 0, 1) by decide +kernel) rfl)))
    (ok_node
    (ok_leaf (ok_iconst (show decode cX7_found 55 = .ok (.iconst 0, 1) by decide +kernel) (by decide +kernel)))
    (ok_node
    (ok_leaf (ok_iload_n (show decode cX7_found 56 = .ok (.iload_n 2, 1) by decide +kernel) rfl))
    (ok_leaf (ok_callV (C := RX7) (T := TX7) (N := 10) (Mc := M_X7_lookThrough) (show decode cX7_found 57 = .ok (.invokevirtual 59, 3) by decide +kernel) rfl (by decide) (by decide +kernel) rfl rfl wd_225 wd_226 wd_227 wd_218 wd_228 ⟨by decide +kernel, by decide +kernel, by decide +kernel⟩ (by decide))))))
    (ok_node
    (ok_node
    (ok_leaf (ok_iinc (show decode cX7_found 60 = .ok (.iinc 2 1, 3) by decide +kernel) (by decide +kernel)))
    (ok_leaf (ok_goto (show decode cX7_found 63 = .ok (.goto (-14), 3) by decide +kernel) (by decide +kernel))))
    (ok_node
    (ok_leaf (ok_aload_n (show decode cX7_found 66 = .ok (.aload_n 0, 1) by decide +kernel) rfl))
    (ok_node
    (ok_leaf (ok_getfield (show decode cX7_found 67 = .ok (.getfield 45, 3) by decide +kernel) (Or.inl (fd_X7 (by decide) wd_214 rfl rfl))))
    (ok_leaf (ok_ireturn (show decode cX7_found 70 = .ok (.ireturn, 1) by decide +kernel) rfl)))))))
set_option maxRecDepth 20000 in
set_option maxHeartbeats 4000000 in
theorem ok_X7_wordOf {sc : List Int32} : ∀ pc, pOk mtOf 189 M_X7_wordOf false sc pc (cd_X7_wordOf pc) := by
  unfold cd_X7_wordOf
  exact ok_node
    (ok_node
    (ok_node
    (ok_node
    (ok_leaf (ok_iload_n (show decode cX7_wordOf 0 = .ok (.iload_n 1, 1) by decide +kernel) rfl))
    (ok_leaf (ok_if_lt (show decode cX7_wordOf 1 = .ok (.ifCond .lt 33, 3) by decide +kernel) (by decide +kernel))))
    (ok_node
    (ok_leaf (ok_iload_n (show decode cX7_wordOf 4 = .ok (.iload_n 1, 1) by decide +kernel) rfl))
    (ok_node
    (ok_leaf (ok_bipush (show decode cX7_wordOf 5 = .ok (.bipush 40, 2) by decide +kernel) (by decide +kernel)))
    (ok_leaf (ok_icmp_ge (show decode cX7_wordOf 7 = .ok (.if_icmp .ge 27, 3) by decide +kernel) (by decide +kernel))))))
    (ok_node
    (ok_node
    (ok_leaf (ok_iload_n (show decode cX7_wordOf 10 = .ok (.iload_n 2, 1) by decide +kernel) rfl))
    (ok_leaf (ok_if_lt (show decode cX7_wordOf 11 = .ok (.ifCond .lt 23, 3) by decide +kernel) (by decide +kernel))))
    (ok_node
    (ok_leaf (ok_iload_n (show decode cX7_wordOf 14 = .ok (.iload_n 2, 1) by decide +kernel) rfl))
    (ok_node
    (ok_leaf (ok_bipush (show decode cX7_wordOf 15 = .ok (.bipush 6, 2) by decide +kernel) (by decide +kernel)))
    (ok_leaf (ok_icmp_ge (show decode cX7_wordOf 17 = .ok (.if_icmp .ge 17, 3) by decide +kernel) (by decide +kernel)))))))
    (ok_node
    (ok_node
    (ok_node
    (ok_leaf (ok_aload_n (show decode cX7_wordOf 20 = .ok (.aload_n 0, 1) by decide +kernel) rfl))
    (ok_leaf (ok_getfield (show decode cX7_wordOf 21 = .ok (.getfield 22, 3) by decide +kernel) (Or.inr (fdF_X7 (by decide) wd_208 rfl rfl)))))
    (ok_node
    (ok_leaf (ok_iload_n (show decode cX7_wordOf 24 = .ok (.iload_n 1, 1) by decide +kernel) rfl))
    (ok_node
    (ok_leaf (ok_bipush (show decode cX7_wordOf 25 = .ok (.bipush 6, 2) by decide +kernel) (by decide +kernel)))
    (ok_leaf (ok_imul (show decode cX7_wordOf 27 = .ok (.imul, 1) by decide +kernel))))))
    (ok_node
    (ok_node
    (ok_leaf (ok_iload_n (show decode cX7_wordOf 28 = .ok (.iload_n 2, 1) by decide +kernel) rfl))
    (ok_node
    (ok_leaf (ok_iadd (show decode cX7_wordOf 29 = .ok (.iadd, 1) by decide +kernel)))
    (ok_leaf (ok_iaload (show decode cX7_wordOf 30 = .ok (.iaload, 1) by decide +kernel)))))
    (ok_node
    (ok_leaf (ok_goto (show decode cX7_wordOf 31 = .ok (.goto 4, 3) by decide +kernel) (by decide +kernel)))
    (ok_node
    (ok_leaf (ok_iconst (show decode cX7_wordOf 34 = .ok (.iconst 0, 1) by decide +kernel) (by decide +kernel)))
    (ok_leaf (ok_ireturn (show decode cX7_wordOf 35 = .ok (.ireturn, 1) by decide +kernel) rfl))))))
set_option maxRecDepth 20000 in
set_option maxHeartbeats 4000000 in
theorem ok_X7_sizeOf {sc : List Int32} : ∀ pc, pOk mtOf 189 M_X7_sizeOf false sc pc (cd_X7_sizeOf pc) := by
  unfold cd_X7_sizeOf
  exact ok_node
    (ok_node
    (ok_node
    (ok_node
    (ok_leaf (ok_iconst (show decode cX7_sizeOf 0 = .ok (.iconst 0, 1) by decide +kernel) (by decide +kernel)))
    (ok_leaf (ok_istore_n (show decode cX7_sizeOf 1 = .ok (.istore_n 2, 1) by decide +kernel) rfl)))
    (ok_node
    (ok_leaf (ok_iconst (show decode cX7_sizeOf 2 = .ok (.iconst 0, 1) by decide +kernel) (by decide +kernel)))
    (ok_leaf (ok_istore_n (show decode cX7_sizeOf 3 = .ok (.istore_n 3, 1) by decide +kernel) rfl))))
    (ok_node
    (ok_node
    (ok_leaf (ok_iload_n (show decode cX7_sizeOf 4 = .ok (.iload_n 3, 1) by decide +kernel) rfl))
    (ok_leaf (ok_bipush (show decode cX7_sizeOf 5 = .ok (.bipush 6, 2) by decide +kernel) (by decide +kernel))))
    (ok_node
    (ok_leaf (ok_icmp_ge (show decode cX7_sizeOf 7 = .ok (.if_icmp .ge 21, 3) by decide +kernel) (by decide +kernel)))
    (ok_node
    (ok_leaf (ok_iload_n (show decode cX7_sizeOf 10 = .ok (.iload_n 2, 1) by decide +kernel) rfl))
    (ok_leaf (ok_aload_n (show decode cX7_sizeOf 11 = .ok (.aload_n 0, 1) by decide +kernel) rfl))))))
    (ok_node
    (ok_node
    (ok_node
    (ok_leaf (ok_iload_n (show decode cX7_sizeOf 12 = .ok (.iload_n 1, 1) by decide +kernel) rfl))
    (ok_leaf (ok_iload_n (show decode cX7_sizeOf 13 = .ok (.iload_n 3, 1) by decide +kernel) rfl)))
    (ok_node
    (ok_leaf (ok_callV (C := RX7) (T := TX7) (N := 10) (Mc := M_X7_wordOf) (show decode cX7_sizeOf 14 = .ok (.invokevirtual 63, 3) by decide +kernel) rfl (by decide) (by decide +kernel) rfl rfl wd_229 wd_230 wd_231 wd_218 wd_232 ⟨by decide +kernel, by decide +kernel, by decide +kernel⟩ (by decide)))
    (ok_node
    (ok_leaf (ok_callS (Mc := M_X0_lettersIn) (show decode cX7_sizeOf 17 = .ok (.invokestatic 67, 3) by decide +kernel) rfl (by decide) (by decide +kernel) wd_233 wd_234 wd_10 wd_235 ⟨by decide +kernel, by decide +kernel, by decide +kernel⟩ (by decide)))
    (ok_leaf (ok_iadd (show decode cX7_sizeOf 20 = .ok (.iadd, 1) by decide +kernel))))))
    (ok_node
    (ok_node
    (ok_leaf (ok_istore_n (show decode cX7_sizeOf 21 = .ok (.istore_n 2, 1) by decide +kernel) rfl))
    (ok_leaf (ok_iinc (show decode cX7_sizeOf 22 = .ok (.iinc 3 1, 3) by decide +kernel) (by decide +kernel))))
    (ok_node
    (ok_leaf (ok_goto (show decode cX7_sizeOf 25 = .ok (.goto (-21), 3) by decide +kernel) (by decide +kernel)))
    (ok_node
    (ok_leaf (ok_iload_n (show decode cX7_sizeOf 28 = .ok (.iload_n 2, 1) by decide +kernel) rfl))
    (ok_leaf (ok_ireturn (show decode cX7_sizeOf 29 = .ok (.ireturn, 1) by decide +kernel) rfl))))))
set_option maxRecDepth 20000 in
set_option maxHeartbeats 4000000 in
theorem ok_X7_take {sc : List Int32} : ∀ pc, pOk mtOf 189 M_X7_take false sc pc (cd_X7_take pc) := by
  unfold cd_X7_take
  exact ok_node
    (ok_node
    (ok_node
    (ok_node
    (ok_leaf (ok_iconst (show decode cX7_take 0 = .ok (.iconst 0, 1) by decide +kernel) (by decide +kernel)))
    (ok_leaf (ok_istore_n (show decode cX7_take 1 = .ok (.istore_n 2, 1) by decide +kernel) rfl)))
    (ok_node
    (ok_leaf (ok_iload_n (show decode cX7_take 2 = .ok (.iload_n 2, 1) by decide +kernel) rfl))
    (ok_leaf (ok_bipush (show decode cX7_take 3 = .ok (.bipush 6, 2) by decide +kernel) (by decide +kernel)))))
    (ok_node
    (ok_node
    (ok_leaf (ok_icmp_ge (show decode cX7_take 5 = .ok (.if_icmp .ge 23, 3) by decide +kernel) (by decide +kernel)))
    (ok_leaf (ok_aload_n (show decode cX7_take 8 = .ok (.aload_n 0, 1) by decide +kernel) rfl)))
    (ok_node
    (ok_leaf (ok_getfield (show decode cX7_take 9 = .ok (.getfield 37, 3) by decide +kernel) (Or.inr (fdF_X7 (by decide) wd_212 rfl rfl))))
    (ok_leaf (ok_iload_n (show decode cX7_take 12 = .ok (.iload_n 2, 1) by decide +kernel) rfl)))))
    (ok_node
    (ok_node
    (ok_node
    (ok_leaf (ok_aload_n (show decode cX7_take 13 = .ok (.aload_n 0, 1) by decide +kernel) rfl))
    (ok_leaf (ok_iload_n (show decode cX7_take 14 = .ok (.iload_n 1, 1) by decide +kernel) rfl)))
    (ok_node
    (ok_leaf (ok_iload_n (show decode cX7_take 15 = .ok (.iload_n 2, 1) by decide +kernel) rfl))
    (ok_leaf (ok_callV (C := RX7) (T := TX7) (N := 10) (Mc := M_X7_wordOf) (show decode cX7_take 16 = .ok (.invokevirtual 63, 3) by decide +kernel) rfl (by decide) (by decide +kernel) rfl rfl wd_229 wd_230 wd_231 wd_218 wd_232 ⟨by decide +kernel, by decide +kernel, by decide +kernel⟩ (by decide)))))
    (ok_node
    (ok_node
    (ok_leaf (ok_callV (C := RX3) (T := TX3) (N := 8) (Mc := M_X3_take) (show decode cX7_take 19 = .ok (.invokevirtual 72, 3) by decide +kernel) rfl (by decide) (by decide +kernel) rfl rfl wd_236 wd_237 wd_238 wd_127 wd_239 ⟨by decide +kernel, by decide +kernel, by decide +kernel⟩ (by decide)))
    (ok_leaf (ok_iinc (show decode cX7_take 22 = .ok (.iinc 2 1, 3) by decide +kernel) (by decide +kernel))))
    (ok_node
    (ok_leaf (ok_goto (show decode cX7_take 25 = .ok (.goto (-23), 3) by decide +kernel) (by decide +kernel)))
    (ok_leaf (ok_return (show decode cX7_take 28 = .ok (.return_, 1) by decide +kernel) rfl)))))
set_option maxRecDepth 20000 in
set_option maxHeartbeats 4000000 in
theorem ok_X7_prepare {sc : List Int32} : ∀ pc, pOk mtOf 189 M_X7_prepare false sc pc (cd_X7_prepare pc) := by
  unfold cd_X7_prepare
  exact ok_node
    (ok_node
    (ok_node
    (ok_node
    (ok_node
    (ok_leaf (ok_aload_n (show decode cX7_prepare 0 = .ok (.aload_n 0, 1) by decide +kernel) rfl))
    (ok_node
    (ok_leaf (ok_getfield (show decode cX7_prepare 1 = .ok (.getfield 25, 3) by decide +kernel) (Or.inr (fdF_X7 (by decide) wd_209 rfl rfl))))
    (ok_leaf (ok_iconst (show decode cX7_prepare 4 = .ok (.iconst 0, 1) by decide +kernel) (by decide +kernel)))))
    (ok_node
    (ok_node
    (ok_leaf (ok_aload_n (show decode cX7_prepare 5 = .ok (.aload_n 0, 1) by decide +kernel) rfl))
    (ok_leaf (ok_getfield (show decode cX7_prepare 6 = .ok (.getfield 25, 3) by decide +kernel) (Or.inr (fdF_X7 (by decide) wd_209 rfl rfl)))))
    (ok_node
    (ok_leaf (ok_callV (C := RX2) (T := TX2) (N := 7) (Mc := M_X2_total) (show decode cX7_prepare 9 = .ok (.invokevirtual 77, 3) by decide +kernel) rfl (by decide) (by decide +kernel) rfl rfl wd_240 wd_241 wd_242 wd_58 wd_243 ⟨by decide +kernel, by decide +kernel, by decide +kernel⟩ (by decide)))
    (ok_leaf (ok_callV (C := RX2) (T := TX2) (N := 7) (Mc := M_X2_flexIn) (show decode cX7_prepare 12 = .ok (.invokevirtual 83, 3) by decide +kernel) rfl (by decide) (by decide +kernel) rfl rfl wd_244 wd_189 wd_190 wd_58 wd_191 ⟨by decide +kernel, by decide +kernel, by decide +kernel⟩ (by decide))))))
    (ok_node
    (ok_node
    (ok_node
    (ok_leaf (ok_istore_n (show decode cX7_prepare 15 = .ok (.istore_n 1, 1) by decide +kernel) rfl))
    (ok_leaf (ok_aload_n (show decode cX7_prepare 16 = .ok (.aload_n 0, 1) by decide +kernel) rfl)))
    (ok_node
    (ok_leaf (ok_iconst (show decode cX7_prepare 17 = .ok (.iconst 0, 1) by decide +kernel) (by decide +kernel)))
    (ok_leaf (ok_putI (show decode cX7_prepare 18 = .ok (.putfield 56, 3) by decide +kernel) (Or.inl (fd_X7 (by decide) wd_224 rfl rfl)) rfl))))
    (ok_node
    (ok_node
    (ok_leaf (ok_iconst (show decode cX7_prepare 21 = .ok (.iconst 0, 1) by decide +kernel) (by decide +kernel)))
    (ok_leaf (ok_istore_n (show decode cX7_prepare 22 = .ok (.istore_n 2, 1) by decide +kernel) rfl)))
    (ok_node
    (ok_leaf (ok_iload_n (show decode cX7_prepare 23 = .ok (.iload_n 2, 1) by decide +kernel) rfl))
    (ok_leaf (ok_bipush (show decode cX7_prepare 24 = .ok (.bipush 6, 2) by decide +kernel) (by decide +kernel)))))))
    (ok_node
    (ok_node
    (ok_node
    (ok_node
    (ok_leaf (ok_icmp_ge (show decode cX7_prepare 26 = .ok (.if_icmp .ge 46, 3) by decide +kernel) (by decide +kernel)))
    (ok_leaf (ok_aload_n (show decode cX7_prepare 29 = .ok (.aload_n 0, 1) by decide +kernel) rfl)))
    (ok_node
    (ok_leaf (ok_getfield (show decode cX7_prepare 30 = .ok (.getfield 37, 3) by decide +kernel) (Or.inr (fdF_X7 (by decide) wd_212 rfl rfl))))
    (ok_leaf (ok_iload_n (show decode cX7_prepare 33 = .ok (.iload_n 2, 1) by decide +kernel) rfl))))
    (ok_node
    (ok_node
    (ok_leaf (ok_iconst (show decode cX7_prepare 34 = .ok (.iconst 0, 1) by decide +kernel) (by decide +kernel)))
    (ok_leaf (ok_callV (C := RX3) (T := TX3) (N := 8) (Mc := M_X3_take) (show decode cX7_prepare 35 = .ok (.invokevirtual 72, 3) by decide +kernel) rfl (by decide) (by decide +kernel) rfl rfl wd_236 wd_237 wd_238 wd_127 wd_239 ⟨by decide +kernel, by decide +kernel, by decide +kernel⟩ (by decide))))
    (ok_node
    (ok_leaf (ok_iload_n (show decode cX7_prepare 38 = .ok (.iload_n 1, 1) by decide +kernel) rfl))
    (ok_leaf (ok_iload_n (show decode cX7_prepare 39 = .ok (.iload_n 2, 1) by decide +kernel) rfl)))))
    (ok_node
    (ok_node
    (ok_node
    (ok_leaf (ok_ishr (show decode cX7_prepare 40 = .ok (.ishr, 1) by decide +kernel)))
    (ok_leaf (ok_iconst (show decode cX7_prepare 41 = .ok (.iconst 1, 1) by decide +kernel) (by decide +kernel))))
    (ok_node
    (ok_leaf (ok_iand (show decode cX7_prepare 42 = .ok (.iand, 1) by decide +kernel)))
    (ok_leaf (ok_if_eq (show decode cX7_prepare 43 = .ok (.ifCond .eq 23, 3) by decide +kernel) (by decide +kernel)))))
    (ok_node
    (ok_node
    (ok_leaf (ok_aload_n (show decode cX7_prepare 46 = .ok (.aload_n 0, 1) by decide +kernel) rfl))
    (ok_leaf (ok_getfield (show decode cX7_prepare 47 = .ok (.getfield 11, 3) by decide +kernel) (Or.inr (fdF_X7 (by decide) wd_206 rfl rfl)))))
    (ok_node
    (ok_leaf (ok_aload_n (show decode cX7_prepare 50 = .ok (.aload_n 0, 1) by decide +kernel) rfl))
    (ok_leaf (ok_getfield (show decode cX7_prepare 51 = .ok (.getfield 56, 3) by decide +kernel) (Or.inl (fd_X7 (by decide) wd_224 rfl rfl)))))))))
    (ok_node
    (ok_node
    (ok_node
    (ok_node
    (ok_leaf (ok_iload_n (show decode cX7_prepare 54 = .ok (.iload_n 2, 1) by decide +kernel) rfl))
    (ok_node
    (ok_leaf (ok_iastore (show decode cX7_prepare 55 = .ok (.iastore, 1) by decide +kernel)))
    (ok_leaf (ok_aload_n (show decode cX7_prepare 56 = .ok (.aload_n 0, 1) by decide +kernel) rfl))))
    (ok_node
    (ok_node
    (ok_leaf (ok_dup (show decode cX7_prepare 57 = .ok (.dup, 1) by decide +kernel)))
    (ok_leaf (ok_getfield (show decode cX7_prepare 58 = .ok (.getfield 56, 3) by decide +kernel) (Or.inl (fd_X7 (by decide) wd_224 rfl rfl)))))
    (ok_node
    (ok_leaf (ok_iconst (show decode cX7_prepare 61 = .ok (.iconst 1, 1) by decide +kernel) (by decide +kernel)))
    (ok_leaf (ok_iadd (show decode cX7_prepare 62 = .ok (.iadd, 1) by decide +kernel))))))
    (ok_node
    (ok_node
    (ok_node
    (ok_leaf (ok_putI (show decode cX7_prepare 63 = .ok (.putfield 56, 3) by decide +kernel) (Or.inl (fd_X7 (by decide) wd_224 rfl rfl)) rfl))
    (ok_leaf (ok_iinc (show decode cX7_prepare 66 = .ok (.iinc 2 1, 3) by decide +kernel) (by decide +kernel))))
    (ok_node
    (ok_leaf (ok_goto (show decode cX7_prepare 69 = .ok (.goto (-46), 3) by decide +kernel) (by decide +kernel)))
    (ok_leaf (ok_iconst (show decode cX7_prepare 72 = .ok (.iconst 0, 1) by decide +kernel) (by decide +kernel)))))
    (ok_node
    (ok_node
    (ok_leaf (ok_istore_n (show decode cX7_prepare 73 = .ok (.istore_n 2, 1) by decide +kernel) rfl))
    (ok_leaf (ok_iload_n (show decode cX7_prepare 74 = .ok (.iload_n 2, 1) by decide +kernel) rfl)))
    (ok_node
    (ok_leaf (ok_aload_n (show decode cX7_prepare 75 = .ok (.aload_n 0, 1) by decide +kernel) rfl))
    (ok_leaf (ok_getfield (show decode cX7_prepare 76 = .ok (.getfield 29, 3) by decide +kernel) (Or.inr (fdF_X7 (by decide) wd_210 rfl rfl))))))))
    (ok_node
    (ok_node
    (ok_node
    (ok_node
    (ok_leaf (ok_callV (C := RX6) (T := TX6) (N := 4) (Mc := M_X6_count) (show decode cX7_prepare 79 = .ok (.invokevirtual 86, 3) by decide +kernel) rfl (by decide) (by decide +kernel) rfl rfl wd_245 wd_246 wd_247 wd_174 wd_248 ⟨by decide +kernel, by decide +kernel, by decide +kernel⟩ (by decide)))
    (ok_leaf (ok_icmp_ge (show decode cX7_prepare 82 = .ok (.if_icmp .ge 29, 3) by decide +kernel) (by decide +kernel))))
    (ok_node
    (ok_leaf (ok_iload_n (show decode cX7_prepare 85 = .ok (.iload_n 2, 1) by decide +kernel) rfl))
    (ok_leaf (ok_bipush (show decode cX7_prepare 86 = .ok (.bipush 20, 2) by decide +kernel) (by decide +kernel)))))
    (ok_node
    (ok_node
    (ok_leaf (ok_icmp_ge (show decode cX7_prepare 88 = .ok (.if_icmp .ge 23, 3) by decide +kernel) (by decide +kernel)))
    (ok_leaf (ok_aload_n (show decode cX7_prepare 91 = .ok (.aload_n 0, 1) by decide +kernel) rfl)))
    (ok_node
    (ok_leaf (ok_getfield (show decode cX7_prepare 92 = .ok (.getfield 19, 3) by decide +kernel) (Or.inr (fdF_X7 (by decide) wd_207 rfl rfl))))
    (ok_leaf (ok_iload_n (show decode cX7_prepare 95 = .ok (.iload_n 2, 1) by decide +kernel) rfl)))))
    (ok_node
    (ok_node
    (ok_node
    (ok_leaf (ok_aload_n (show decode cX7_prepare 96 = .ok (.aload_n 0, 1) by decide +kernel) rfl))
    (ok_leaf (ok_getfield (show decode cX7_prepare 97 = .ok (.getfield 29, 3) by decide +kernel) (Or.inr (fdF_X7 (by decide) wd_210 rfl rfl)))))
    (ok_node
    (ok_leaf (ok_iload_n (show decode cX7_prepare 100 = .ok (.iload_n 2, 1) by decide +kernel) rfl))
    (ok_leaf (ok_callV (C := RX6) (T := TX6) (N := 4) (Mc := M_X6_lastFlex) (show decode cX7_prepare 101 = .ok (.invokevirtual 88, 3) by decide +kernel) rfl (by decide) (by decide +kernel) rfl rfl wd_249 wd_250 wd_251 wd_174 wd_252 ⟨by decide +kernel, by decide +kernel, by decide +kernel⟩ (by decide)))))
    (ok_node
    (ok_node
    (ok_leaf (ok_iastore (show decode cX7_prepare 104 = .ok (.iastore, 1) by decide +kernel)))
    (ok_leaf (ok_iinc (show decode cX7_prepare 105 = .ok (.iinc 2 1, 3) by decide +kernel) (by decide +kernel))))
    (ok_node
    (ok_leaf (ok_goto (show decode cX7_prepare 108 = .ok (.goto (-34), 3) by decide +kernel) (by decide +kernel)))
    (ok_leaf (ok_return (show decode cX7_prepare 111 = .ok (.return_, 1) by decide +kernel) rfl)))))))
set_option maxRecDepth 20000 in
set_option maxHeartbeats 4000000 in
theorem ok_X7_lookThrough {sc : List Int32} : ∀ pc, pOk mtOf 189 M_X7_lookThrough false sc pc (cd_X7_lookThrough pc) := by
  unfold cd_X7_lookThrough
  exact ok_node
    (ok_node
    (ok_node
    (ok_node
    (ok_node
    (ok_node
    (ok_leaf (ok_iload_n (show decode cX7_lookThrough 0 = .ok (.iload_n 1, 1) by decide +kernel) rfl))
    (ok_leaf (ok_aload_n (show decode cX7_lookThrough 1 = .ok (.aload_n 0, 1) by decide +kernel) rfl)))
    (ok_node
    (ok_leaf (ok_getfield (show decode cX7_lookThrough 2 = .ok (.getfield 56, 3) by decide +kernel) (Or.inl (fd_X7 (by decide) wd_224 rfl rfl))))
    (ok_node
    (ok_leaf (ok_icmp_ge (show decode cX7_lookThrough 5 = .ok (.if_icmp .ge 9, 3) by decide +kernel) (by decide +kernel)))
    (ok_leaf (ok_iload_n (show decode cX7_lookThrough 8 = .ok (.iload_n 1, 1) by decide +kernel) rfl)))))
    (ok_node
    (ok_node
    (ok_leaf (ok_bipush (show decode cX7_lookThrough 9 = .ok (.bipush 6, 2) by decide +kernel) (by decide +kernel)))
    (ok_leaf (ok_icmp_lt (show decode cX7_lookThrough 11 = .ok (.if_icmp .lt 12, 3) by decide +kernel) (by decide +kernel))))
    (ok_node
    (ok_leaf (ok_iload_n (show decode cX7_lookThrough 14 = .ok (.iload_n 2, 1) by decide +kernel) rfl))
    (ok_node
    (ok_leaf (ok_if_ne (show decode cX7_lookThrough 15 = .ok (.ifCond .ne 7, 3) by decide +kernel) (by decide +kernel)))
    (ok_leaf (ok_aload_n (show decode cX7_lookThrough 18 = .ok (.aload_n 0, 1) by decide +kernel) rfl))))))
    (ok_node
    (ok_node
    (ok_node
    (ok_leaf (ok_callV (C := RX7) (T := TX7) (N := 10) (Mc := M_X7_keepIfItFits) (show decode cX7_lookThrough 19 = .ok (.invokevirtual 91, 3) by decide +kernel) rfl (by decide) (by decide +kernel) rfl rfl wd_253 wd_254 wd_255 wd_218 wd_256 ⟨by decide +kernel, by decide +kernel, by decide +kernel⟩ (by decide)))
    (ok_leaf (ok_return (show decode cX7_lookThrough 22 = .ok (.return_, 1) by decide +kernel) rfl)))
    (ok_node
    (ok_leaf (ok_aload_n (show decode cX7_lookThrough 23 = .ok (.aload_n 0, 1) by decide +kernel) rfl))
    (ok_node
    (ok_leaf (ok_getfield (show decode cX7_lookThrough 24 = .ok (.getfield 11, 3) by decide +kernel) (Or.inr (fdF_X7 (by decide) wd_206 rfl rfl))))
    (ok_leaf (ok_iload_n (show decode cX7_lookThrough 27 = .ok (.iload_n 1, 1) by decide +kernel) rfl)))))
    (ok_node
    (ok_node
    (ok_leaf (ok_iaload (show decode cX7_lookThrough 28 = .ok (.iaload, 1) by decide +kernel)))
    (ok_node
    (ok_leaf (ok_istore_n (show decode cX7_lookThrough 29 = .ok (.istore_n 3, 1) by decide +kernel) rfl))
    (ok_leaf (ok_bipush (show decode cX7_lookThrough 30 = .ok (.bipush 85, 2) by decide +kernel) (by decide +kernel)))))
    (ok_node
    (ok_leaf (ok_iload_n (show decode cX7_lookThrough 32 = .ok (.iload_n 3, 1) by decide +kernel) rfl))
    (ok_node
    (ok_leaf (ok_iadd (show decode cX7_lookThrough 33 = .ok (.iadd, 1) by decide +kernel)))
    (ok_leaf (ok_callS (Mc := M_X5_parts) (show decode cX7_lookThrough 34 = .ok (.invokestatic 94, 3) by decide +kernel) rfl (by decide) (by decide +kernel) wd_257 wd_27 wd_28 wd_29 ⟨by decide +kernel, by decide +kernel, by decide +kernel⟩ (by decide))))))))
    (ok_node
    (ok_node
    (ok_node
    (ok_node
    (ok_leaf (ok_istore (show decode cX7_lookThrough 37 = .ok (.istore 4, 2) by decide +kernel)))
    (ok_leaf (ok_aload_n (show decode cX7_lookThrough 39 = .ok (.aload_n 0, 1) by decide +kernel) rfl)))
    (ok_node
    (ok_leaf (ok_getfield (show decode cX7_lookThrough 40 = .ok (.getfield 56, 3) by decide +kernel) (Or.inl (fd_X7 (by decide) wd_224 rfl rfl))))
    (ok_node
    (ok_leaf (ok_iload_n (show decode cX7_lookThrough 43 = .ok (.iload_n 1, 1) by decide +kernel) rfl))
    (ok_leaf (ok_isub (show decode cX7_lookThrough 44 = .ok (.isub, 1) by decide +kernel))))))
    (ok_node
    (ok_node
    (ok_leaf (ok_iconst (show decode cX7_lookThrough 45 = .ok (.iconst 1, 1) by decide +kernel) (by decide +kernel)))
    (ok_leaf (ok_isub (show decode cX7_lookThrough 46 = .ok (.isub, 1) by decide +kernel))))
    (ok_node
    (ok_leaf (ok_istore (show decode cX7_lookThrough 47 = .ok (.istore 5, 2) by decide +kernel)))
    (ok_node
    (ok_leaf (ok_iload (show decode cX7_lookThrough 49 = .ok (.iload 5, 2) by decide +kernel)))
    (ok_leaf (ok_if_ne (show decode cX7_lookThrough 51 = .ok (.ifCond .ne 7, 3) by decide +kernel) (by decide +kernel)))))))
    (ok_node
    (ok_node
    (ok_node
    (ok_leaf (ok_iload_n (show decode cX7_lookThrough 54 = .ok (.iload_n 2, 1) by decide +kernel) rfl))
    (ok_leaf (ok_goto (show decode cX7_lookThrough 55 = .ok (.goto 4, 3) by decide +kernel) (by decide +kernel))))
    (ok_node
    (ok_leaf (ok_iconst (show decode cX7_lookThrough 58 = .ok (.iconst 1, 1) by decide +kernel) (by decide +kernel)))
    (ok_node
    (ok_leaf (ok_istore (show decode cX7_lookThrough 59 = .ok (.istore 6, 2) by decide +kernel)))
    (ok_leaf (ok_iload (show decode cX7_lookThrough 61 = .ok (.iload 6, 2) by decide +kernel))))))
    (ok_node
    (ok_node
    (ok_leaf (ok_iload_n (show decode cX7_lookThrough 63 = .ok (.iload_n 2, 1) by decide +kernel) rfl))
    (ok_node
    (ok_leaf (ok_iload (show decode cX7_lookThrough 64 = .ok (.iload 5, 2) by decide +kernel)))
    (ok_leaf (ok_isub (show decode cX7_lookThrough 66 = .ok (.isub, 1) by decide +kernel)))))
    (ok_node
    (ok_leaf (ok_icmp_gt (show decode cX7_lookThrough 67 = .ok (.if_icmp .gt 93, 3) by decide +kernel) (by decide +kernel)))
    (ok_node
    (ok_leaf (ok_aload_n (show decode cX7_lookThrough 70 = .ok (.aload_n 0, 1) by decide +kernel) rfl))
    (ok_leaf (ok_getfield (show decode cX7_lookThrough 71 = .ok (.getfield 33, 3) by decide +kernel) (Or.inr (fdF_X7 (by decide) wd_211 rfl rfl))))))))))
    (ok_node
    (ok_node
    (ok_node
    (ok_node
    (ok_node
    (ok_leaf (ok_iload (show decode cX7_lookThrough 74 = .ok (.iload 4, 2) by decide +kernel)))
    (ok_leaf (ok_iload (show decode cX7_lookThrough 76 = .ok (.iload 6, 2) by decide +kernel))))
    (ok_node
    (ok_leaf (ok_callV (C := RX0) (T := TX0) (N := 3) (Mc := M_X0_end) (show decode cX7_lookThrough 78 = .ok (.invokevirtual 97, 3) by decide +kernel) rfl (by decide) (by decide +kernel) rfl rfl wd_258 wd_259 wd_260 wd_10 wd_261 ⟨by decide +kernel, by decide +kernel, by decide +kernel⟩ (by decide)))
    (ok_node
    (ok_leaf (ok_istore (show decode cX7_lookThrough 81 = .ok (.istore 7, 2) by decide +kernel)))
    (ok_leaf (ok_aload_n (show decode cX7_lookThrough 83 = .ok (.aload_n 0, 1) by decide +kernel) rfl)))))
    (ok_node
    (ok_node
    (ok_leaf (ok_getfield (show decode cX7_lookThrough 84 = .ok (.getfield 33, 3) by decide +kernel) (Or.inr (fdF_X7 (by decide) wd_211 rfl rfl))))
    (ok_leaf (ok_iload (show decode cX7_lookThrough 87 = .ok (.iload 4, 2) by decide +kernel))))
    (ok_node
    (ok_leaf (ok_iload (show decode cX7_lookThrough 89 = .ok (.iload 6, 2) by decide +kernel)))
    (ok_node
    (ok_leaf (ok_callV (C := RX0) (T := TX0) (N := 3) (Mc := M_X0_first) (show decode cX7_lookThrough 91 = .ok (.invokevirtual 100, 3) by decide +kernel) rfl (by decide) (by decide +kernel) rfl rfl wd_262 wd_263 wd_264 wd_10 wd_265 ⟨by decide +kernel, by decide +kernel, by decide +kernel⟩ (by decide)))
    (ok_leaf (ok_istore (show decode cX7_lookThrough 94 = .ok (.istore 8, 2) by decide +kernel)))))))
    (ok_node
    (ok_node
    (ok_node
    (ok_leaf (ok_iload (show decode cX7_lookThrough 96 = .ok (.iload 8, 2) by decide +kernel)))
    (ok_leaf (ok_iload (show decode cX7_lookThrough 98 = .ok (.iload 7, 2) by decide +kernel))))
    (ok_node
    (ok_leaf (ok_icmp_ge (show decode cX7_lookThrough 100 = .ok (.if_icmp .ge 54, 3) by decide +kernel) (by decide +kernel)))
    (ok_node
    (ok_leaf (ok_aload_n (show decode cX7_lookThrough 103 = .ok (.aload_n 0, 1) by decide +kernel) rfl))
    (ok_leaf (ok_getfield (show decode cX7_lookThrough 104 = .ok (.getfield 45, 3) by decide +kernel) (Or.inl (fd_X7 (by decide) wd_214 rfl rfl)))))))
    (ok_node
    (ok_node
    (ok_leaf (ok_bipush (show decode cX7_lookThrough 107 = .ok (.bipush 40, 2) by decide +kernel) (by decide +kernel)))
    (ok_node
    (ok_leaf (ok_icmp_ge (show decode cX7_lookThrough 109 = .ok (.if_icmp .ge 45, 3) by decide +kernel) (by decide +kernel)))
    (ok_leaf (ok_aload_n (show decode cX7_lookThrough 112 = .ok (.aload_n 0, 1) by decide +kernel) rfl))))
    (ok_node
    (ok_leaf (ok_getfield (show decode cX7_lookThrough 113 = .ok (.getfield 37, 3) by decide +kernel) (Or.inr (fdF_X7 (by decide) wd_212 rfl rfl))))
    (ok_node
    (ok_leaf (ok_iload_n (show decode cX7_lookThrough 116 = .ok (.iload_n 3, 1) by decide +kernel) rfl))
    (ok_leaf (ok_aload_n (show decode cX7_lookThrough 117 = .ok (.aload_n 0, 1) by decide +kernel) rfl)))))))
    (ok_node
    (ok_node
    (ok_node
    (ok_node
    (ok_leaf (ok_getfield (show decode cX7_lookThrough 118 = .ok (.getfield 33, 3) by decide +kernel) (Or.inr (fdF_X7 (by decide) wd_211 rfl rfl))))
    (ok_leaf (ok_iload (show decode cX7_lookThrough 121 = .ok (.iload 8, 2) by decide +kernel))))
    (ok_node
    (ok_leaf (ok_callV (C := RX0) (T := TX0) (N := 3) (Mc := M_X0_word) (show decode cX7_lookThrough 123 = .ok (.invokevirtual 103, 3) by decide +kernel) rfl (by decide) (by decide +kernel) rfl rfl wd_266 wd_267 wd_268 wd_10 wd_269 ⟨by decide +kernel, by decide +kernel, by decide +kernel⟩ (by decide)))
    (ok_node
    (ok_leaf (ok_callV (C := RX3) (T := TX3) (N := 8) (Mc := M_X3_take) (show decode cX7_lookThrough 126 = .ok (.invokevirtual 72, 3) by decide +kernel) rfl (by decide) (by decide +kernel) rfl rfl wd_236 wd_237 wd_238 wd_127 wd_239 ⟨by decide +kernel, by decide +kernel, by decide +kernel⟩ (by decide)))
    (ok_leaf (ok_aload_n (show decode cX7_lookThrough 129 = .ok (.aload_n 0, 1) by decide +kernel) rfl)))))
    (ok_node
    (ok_node
    (ok_leaf (ok_iload_n (show decode cX7_lookThrough 130 = .ok (.iload_n 3, 1) by decide +kernel) rfl))
    (ok_leaf (ok_callV (C := RX7) (T := TX7) (N := 10) (Mc := M_X7_pairsAgree) (show decode cX7_lookThrough 131 = .ok (.invokevirtual 106, 3) by decide +kernel) rfl (by decide) (by decide +kernel) rfl rfl wd_270 wd_271 wd_272 wd_218 wd_273 ⟨by decide +kernel, by decide +kernel, by decide +kernel⟩ (by decide))))
    (ok_node
    (ok_leaf (ok_if_eq (show decode cX7_lookThrough 134 = .ok (.ifCond .eq 14, 3) by decide +kernel) (by decide +kernel)))
    (ok_node
    (ok_leaf (ok_aload_n (show decode cX7_lookThrough 137 = .ok (.aload_n 0, 1) by decide +kernel) rfl))
    (ok_leaf (ok_iload_n (show decode cX7_lookThrough 138 = .ok (.iload_n 1, 1) by decide +kernel) rfl))))))
    (ok_node
    (ok_node
    (ok_node
    (ok_leaf (ok_iconst (show decode cX7_lookThrough 139 = .ok (.iconst 1, 1) by decide +kernel) (by decide +kernel)))
    (ok_leaf (ok_iadd (show decode cX7_lookThrough 140 = .ok (.iadd, 1) by decide +kernel))))
    (ok_node
    (ok_leaf (ok_iload_n (show decode cX7_lookThrough 141 = .ok (.iload_n 2, 1) by decide +kernel) rfl))
    (ok_node
    (ok_leaf (ok_iload (show decode cX7_lookThrough 142 = .ok (.iload 6, 2) by decide +kernel)))
    (ok_leaf (ok_isub (show decode cX7_lookThrough 144 = .ok (.isub, 1) by decide +kernel))))))
    (ok_node
    (ok_node
    (ok_leaf (ok_callV (C := RX7) (T := TX7) (N := 10) (Mc := M_X7_lookThrough) (show decode cX7_lookThrough 145 = .ok (.invokevirtual 59, 3) by decide +kernel) rfl (by decide) (by decide +kernel) rfl rfl wd_225 wd_226 wd_227 wd_218 wd_228 ⟨by decide +kernel, by decide +kernel, by decide +kernel⟩ (by decide)))
    (ok_node
    (ok_leaf (ok_iinc (show decode cX7_lookThrough 148 = .ok (.iinc 8 1, 3) by decide +kernel) (by decide +kernel)))
    (ok_leaf (ok_goto (show decode cX7_lookThrough 151 = .ok (.goto (-55), 3) by decide +kernel) (by decide +kernel)))))
    (ok_node
    (ok_leaf (ok_iinc (show decode cX7_lookThrough 154 = .ok (.iinc 6 1, 3) by decide +kernel) (by decide +kernel)))
    (ok_node
    (ok_leaf (ok_goto (show decode cX7_lookThrough 157 = .ok (.goto (-96), 3) by decide +kernel) (by decide +kernel)))
    (ok_leaf (ok_return (show decode cX7_lookThrough 160 = .ok (.return_, 1) by decide +kernel) rfl))))))))
set_option maxRecDepth 20000 in
set_option maxHeartbeats 4000000 in
theorem ok_X7_pairsAgree {sc : List Int32} : ∀ pc, pOk mtOf 189 M_X7_pairsAgree false sc pc (cd_X7_pairsAgree pc) := by
  unfold cd_X7_pairsAgree
  exact ok_node
    (ok_node
    (ok_node
    (ok_node
    (ok_node
    (ok_leaf (ok_iconst (show decode cX7_pairsAgree 0 = .ok (.iconst 0, 1) by decide +kernel) (by decide +kernel)))
    (ok_leaf (ok_istore_n (show decode cX7_pairsAgree 1 = .ok (.istore_n 2, 1) by decide +kernel) rfl)))
    (ok_node
    (ok_leaf (ok_iload_n (show decode cX7_pairsAgree 2 = .ok (.iload_n 2, 1) by decide +kernel) rfl))
    (ok_leaf (ok_aload_n (show decode cX7_pairsAgree 3 = .ok (.aload_n 0, 1) by decide +kernel) rfl))))
    (ok_node
    (ok_node
    (ok_leaf (ok_getfield (show decode cX7_pairsAgree 4 = .ok (.getfield 29, 3) by decide +kernel) (Or.inr (fdF_X7 (by decide) wd_210 rfl rfl))))
    (ok_leaf (ok_callV (C := RX6) (T := TX6) (N := 4) (Mc := M_X6_count) (show decode cX7_pairsAgree 7 = .ok (.invokevirtual 86, 3) by decide +kernel) rfl (by decide) (by decide +kernel) rfl rfl wd_245 wd_246 wd_247 wd_174 wd_248 ⟨by decide +kernel, by decide +kernel, by decide +kernel⟩ (by decide))))
    (ok_node
    (ok_leaf (ok_icmp_ge (show decode cX7_pairsAgree 10 = .ok (.if_icmp .ge 53, 3) by decide +kernel) (by decide +kernel)))
    (ok_leaf (ok_iload_n (show decode cX7_pairsAgree 13 = .ok (.iload_n 2, 1) by decide +kernel) rfl)))))
    (ok_node
    (ok_node
    (ok_node
    (ok_leaf (ok_bipush (show decode cX7_pairsAgree 14 = .ok (.bipush 20, 2) by decide +kernel) (by decide +kernel)))
    (ok_leaf (ok_icmp_ge (show decode cX7_pairsAgree 16 = .ok (.if_icmp .ge 47, 3) by decide +kernel) (by decide +kernel))))
    (ok_node
    (ok_leaf (ok_aload_n (show decode cX7_pairsAgree 19 = .ok (.aload_n 0, 1) by decide +kernel) rfl))
    (ok_leaf (ok_getfield (show decode cX7_pairsAgree 20 = .ok (.getfield 19, 3) by decide +kernel) (Or.inr (fdF_X7 (by decide) wd_207 rfl rfl))))))
    (ok_node
    (ok_node
    (ok_leaf (ok_iload_n (show decode cX7_pairsAgree 23 = .ok (.iload_n 2, 1) by decide +kernel) rfl))
    (ok_leaf (ok_iaload (show decode cX7_pairsAgree 24 = .ok (.iaload, 1) by decide +kernel))))
    (ok_node
    (ok_leaf (ok_iload_n (show decode cX7_pairsAgree 25 = .ok (.iload_n 1, 1) by decide +kernel) rfl))
    (ok_node
    (ok_leaf (ok_icmp_ne (show decode cX7_pairsAgree 26 = .ok (.if_icmp .ne 31, 3) by decide +kernel) (by decide +kernel)))
    (ok_leaf (ok_aload_n (show decode cX7_pairsAgree 29 = .ok (.aload_n 0, 1) by decide +kernel) rfl)))))))
    (ok_node
    (ok_node
    (ok_node
    (ok_node
    (ok_leaf (ok_getfield (show decode cX7_pairsAgree 30 = .ok (.getfield 37, 3) by decide +kernel) (Or.inr (fdF_X7 (by decide) wd_212 rfl rfl))))
    (ok_leaf (ok_aload_n (show decode cX7_pairsAgree 33 = .ok (.aload_n 0, 1) by decide +kernel) rfl)))
    (ok_node
    (ok_leaf (ok_getfield (show decode cX7_pairsAgree 34 = .ok (.getfield 29, 3) by decide +kernel) (Or.inr (fdF_X7 (by decide) wd_210 rfl rfl))))
    (ok_leaf (ok_iload_n (show decode cX7_pairsAgree 37 = .ok (.iload_n 2, 1) by decide +kernel) rfl))))
    (ok_node
    (ok_node
    (ok_leaf (ok_callV (C := RX6) (T := TX6) (N := 4) (Mc := M_X6_left) (show decode cX7_pairsAgree 38 = .ok (.invokevirtual 110, 3) by decide +kernel) rfl (by decide) (by decide +kernel) rfl rfl wd_274 wd_172 wd_173 wd_174 wd_175 ⟨by decide +kernel, by decide +kernel, by decide +kernel⟩ (by decide)))
    (ok_leaf (ok_aload_n (show decode cX7_pairsAgree 41 = .ok (.aload_n 0, 1) by decide +kernel) rfl)))
    (ok_node
    (ok_leaf (ok_getfield (show decode cX7_pairsAgree 42 = .ok (.getfield 29, 3) by decide +kernel) (Or.inr (fdF_X7 (by decide) wd_210 rfl rfl))))
    (ok_leaf (ok_iload_n (show decode cX7_pairsAgree 45 = .ok (.iload_n 2, 1) by decide +kernel) rfl)))))
    (ok_node
    (ok_node
    (ok_node
    (ok_leaf (ok_callV (C := RX6) (T := TX6) (N := 4) (Mc := M_X6_right) (show decode cX7_pairsAgree 46 = .ok (.invokevirtual 113, 3) by decide +kernel) rfl (by decide) (by decide +kernel) rfl rfl wd_275 wd_179 wd_180 wd_174 wd_181 ⟨by decide +kernel, by decide +kernel, by decide +kernel⟩ (by decide)))
    (ok_leaf (ok_callV (C := RX3) (T := TX3) (N := 8) (Mc := M_X3_agree) (show decode cX7_pairsAgree 49 = .ok (.invokevirtual 116, 3) by decide +kernel) rfl (by decide) (by decide +kernel) rfl rfl wd_276 wd_277 wd_278 wd_127 wd_279 ⟨by decide +kernel, by decide +kernel, by decide +kernel⟩ (by decide))))
    (ok_node
    (ok_leaf (ok_if_ne (show decode cX7_pairsAgree 52 = .ok (.ifCond .ne 5, 3) by decide +kernel) (by decide +kernel)))
    (ok_leaf (ok_iconst (show decode cX7_pairsAgree 55 = .ok (.iconst 0, 1) by decide +kernel) (by decide +kernel)))))
    (ok_node
    (ok_node
    (ok_leaf (ok_zreturn (show decode cX7_pairsAgree 56 = .ok (.ireturn, 1) by decide +kernel) rfl))
    (ok_leaf (ok_iinc (show decode cX7_pairsAgree 57 = .ok (.iinc 2 1, 3) by decide +kernel) (by decide +kernel))))
    (ok_node
    (ok_leaf (ok_goto (show decode cX7_pairsAgree 60 = .ok (.goto (-58), 3) by decide +kernel) (by decide +kernel)))
    (ok_node
    (ok_leaf (ok_iconst (show decode cX7_pairsAgree 63 = .ok (.iconst 1, 1) by decide +kernel) (by decide +kernel)))
    (ok_leaf (ok_zreturn (show decode cX7_pairsAgree 64 = .ok (.ireturn, 1) by decide +kernel) rfl)))))))
set_option maxRecDepth 20000 in
set_option maxHeartbeats 4000000 in
theorem ok_X7_keepIfItFits {sc : List Int32} : ∀ pc, pOk mtOf 189 M_X7_keepIfItFits false sc pc (cd_X7_keepIfItFits pc) := by
  unfold cd_X7_keepIfItFits
  exact ok_node
    (ok_node
    (ok_node
    (ok_node
    (ok_node
    (ok_leaf (ok_iconst (show decode cX7_keepIfItFits 0 = .ok (.iconst 0, 1) by decide +kernel) (by decide +kernel)))
    (ok_node
    (ok_leaf (ok_istore_n (show decode cX7_keepIfItFits 1 = .ok (.istore_n 1, 1) by decide +kernel) rfl))
    (ok_leaf (ok_iload_n (show decode cX7_keepIfItFits 2 = .ok (.iload_n 1, 1) by decide +kernel) rfl))))
    (ok_node
    (ok_leaf (ok_aload_n (show decode cX7_keepIfItFits 3 = .ok (.aload_n 0, 1) by decide +kernel) rfl))
    (ok_node
    (ok_leaf (ok_getfield (show decode cX7_keepIfItFits 4 = .ok (.getfield 25, 3) by decide +kernel) (Or.inr (fdF_X7 (by decide) wd_209 rfl rfl))))
    (ok_leaf (ok_callV (C := RX2) (T := TX2) (N := 7) (Mc := M_X2_count) (show decode cX7_keepIfItFits 7 = .ok (.invokevirtual 120, 3) by decide +kernel) rfl (by decide) (by decide +kernel) rfl rfl wd_280 wd_56 wd_57 wd_58 wd_59 ⟨by decide +kernel, by decide +kernel, by decide +kernel⟩ (by decide))))))
    (ok_node
    (ok_node
    (ok_leaf (ok_icmp_ge (show decode cX7_keepIfItFits 10 = .ok (.if_icmp .ge 29, 3) by decide +kernel) (by decide +kernel)))
    (ok_node
    (ok_leaf (ok_aload_n (show decode cX7_keepIfItFits 13 = .ok (.aload_n 0, 1) by decide +kernel) rfl))
    (ok_leaf (ok_getfield (show decode cX7_keepIfItFits 14 = .ok (.getfield 37, 3) by decide +kernel) (Or.inr (fdF_X7 (by decide) wd_212 rfl rfl))))))
    (ok_node
    (ok_leaf (ok_aload_n (show decode cX7_keepIfItFits 17 = .ok (.aload_n 0, 1) by decide +kernel) rfl))
    (ok_node
    (ok_leaf (ok_getfield (show decode cX7_keepIfItFits 18 = .ok (.getfield 25, 3) by decide +kernel) (Or.inr (fdF_X7 (by decide) wd_209 rfl rfl))))
    (ok_leaf (ok_iload_n (show decode cX7_keepIfItFits 21 = .ok (.iload_n 1, 1) by decide +kernel) rfl))))))
    (ok_node
    (ok_node
    (ok_node
    (ok_leaf (ok_iconst (show decode cX7_keepIfItFits 22 = .ok (.iconst 0, 1) by decide +kernel) (by decide +kernel)))
    (ok_node
    (ok_leaf (ok_callV (C := RX2) (T := TX2) (N := 7) (Mc := M_X2_start) (show decode cX7_keepIfItFits 23 = .ok (.invokevirtual 121, 3) by decide +kernel) rfl (by decide) (by decide +kernel) rfl rfl wd_281 wd_194 wd_195 wd_58 wd_196 ⟨by decide +kernel, by decide +kernel, by decide +kernel⟩ (by decide)))
    (ok_leaf (ok_callV (C := RX3) (T := TX3) (N := 8) (Mc := M_X3_fits) (show decode cX7_keepIfItFits 26 = .ok (.invokevirtual 124, 3) by decide +kernel) rfl (by decide) (by decide +kernel) rfl rfl wd_282 wd_283 wd_284 wd_127 wd_285 ⟨by decide +kernel, by decide +kernel, by decide +kernel⟩ (by decide)))))
    (ok_node
    (ok_leaf (ok_if_ne (show decode cX7_keepIfItFits 29 = .ok (.ifCond .ne 4, 3) by decide +kernel) (by decide +kernel)))
    (ok_node
    (ok_leaf (ok_return (show decode cX7_keepIfItFits 32 = .ok (.return_, 1) by decide +kernel) rfl))
    (ok_leaf (ok_iinc (show decode cX7_keepIfItFits 33 = .ok (.iinc 1 1, 3) by decide +kernel) (by decide +kernel))))))
    (ok_node
    (ok_node
    (ok_leaf (ok_goto (show decode cX7_keepIfItFits 36 = .ok (.goto (-34), 3) by decide +kernel) (by decide +kernel)))
    (ok_node
    (ok_leaf (ok_aload_n (show decode cX7_keepIfItFits 39 = .ok (.aload_n 0, 1) by decide +kernel) rfl))
    (ok_leaf (ok_getfield (show decode cX7_keepIfItFits 40 = .ok (.getfield 45, 3) by decide +kernel) (Or.inl (fd_X7 (by decide) wd_214 rfl rfl))))))
    (ok_node
    (ok_node
    (ok_leaf (ok_bipush (show decode cX7_keepIfItFits 43 = .ok (.bipush 40, 2) by decide +kernel) (by decide +kernel)))
    (ok_leaf (ok_icmp_ge (show decode cX7_keepIfItFits 45 = .ok (.if_icmp .ge 49, 3) by decide +kernel) (by decide +kernel))))
    (ok_node
    (ok_leaf (ok_iconst (show decode cX7_keepIfItFits 48 = .ok (.iconst 0, 1) by decide +kernel) (by decide +kernel)))
    (ok_leaf (ok_istore_n (show decode cX7_keepIfItFits 49 = .ok (.istore_n 1, 1) by decide +kernel) rfl)))))))
    (ok_node
    (ok_node
    (ok_node
    (ok_node
    (ok_leaf (ok_iload_n (show decode cX7_keepIfItFits 50 = .ok (.iload_n 1, 1) by decide +kernel) rfl))
    (ok_node
    (ok_leaf (ok_bipush (show decode cX7_keepIfItFits 51 = .ok (.bipush 6, 2) by decide +kernel) (by decide +kernel)))
    (ok_leaf (ok_icmp_ge (show decode cX7_keepIfItFits 53 = .ok (.if_icmp .ge 31, 3) by decide +kernel) (by decide +kernel)))))
    (ok_node
    (ok_leaf (ok_aload_n (show decode cX7_keepIfItFits 56 = .ok (.aload_n 0, 1) by decide +kernel) rfl))
    (ok_node
    (ok_leaf (ok_getfield (show decode cX7_keepIfItFits 57 = .ok (.getfield 22, 3) by decide +kernel) (Or.inr (fdF_X7 (by decide) wd_208 rfl rfl))))
    (ok_leaf (ok_aload_n (show decode cX7_keepIfItFits 60 = .ok (.aload_n 0, 1) by decide +kernel) rfl)))))
    (ok_node
    (ok_node
    (ok_leaf (ok_getfield (show decode cX7_keepIfItFits 61 = .ok (.getfield 45, 3) by decide +kernel) (Or.inl (fd_X7 (by decide) wd_214 rfl rfl))))
    (ok_node
    (ok_leaf (ok_bipush (show decode cX7_keepIfItFits 64 = .ok (.bipush 6, 2) by decide +kernel) (by decide +kernel)))
    (ok_leaf (ok_imul (show decode cX7_keepIfItFits 66 = .ok (.imul, 1) by decide +kernel)))))
    (ok_node
    (ok_leaf (ok_iload_n (show decode cX7_keepIfItFits 67 = .ok (.iload_n 1, 1) by decide +kernel) rfl))
    (ok_node
    (ok_leaf (ok_iadd (show decode cX7_keepIfItFits 68 = .ok (.iadd, 1) by decide +kernel)))
    (ok_leaf (ok_aload_n (show decode cX7_keepIfItFits 69 = .ok (.aload_n 0, 1) by decide +kernel) rfl))))))
    (ok_node
    (ok_node
    (ok_node
    (ok_leaf (ok_getfield (show decode cX7_keepIfItFits 70 = .ok (.getfield 37, 3) by decide +kernel) (Or.inr (fdF_X7 (by decide) wd_212 rfl rfl))))
    (ok_node
    (ok_leaf (ok_iload_n (show decode cX7_keepIfItFits 73 = .ok (.iload_n 1, 1) by decide +kernel) rfl))
    (ok_leaf (ok_callV (C := RX3) (T := TX3) (N := 8) (Mc := M_X3_word) (show decode cX7_keepIfItFits 74 = .ok (.invokevirtual 127, 3) by decide +kernel) rfl (by decide) (by decide +kernel) rfl rfl wd_286 wd_287 wd_288 wd_127 wd_289 ⟨by decide +kernel, by decide +kernel, by decide +kernel⟩ (by decide)))))
    (ok_node
    (ok_leaf (ok_iastore (show decode cX7_keepIfItFits 77 = .ok (.iastore, 1) by decide +kernel)))
    (ok_node
    (ok_leaf (ok_iinc (show decode cX7_keepIfItFits 78 = .ok (.iinc 1 1, 3) by decide +kernel) (by decide +kernel)))
    (ok_leaf (ok_goto (show decode cX7_keepIfItFits 81 = .ok (.goto (-31), 3) by decide +kernel) (by decide +kernel))))))
    (ok_node
    (ok_node
    (ok_leaf (ok_aload_n (show decode cX7_keepIfItFits 84 = .ok (.aload_n 0, 1) by decide +kernel) rfl))
    (ok_node
    (ok_leaf (ok_dup (show decode cX7_keepIfItFits 85 = .ok (.dup, 1) by decide +kernel)))
    (ok_leaf (ok_getfield (show decode cX7_keepIfItFits 86 = .ok (.getfield 45, 3) by decide +kernel) (Or.inl (fd_X7 (by decide) wd_214 rfl rfl))))))
    (ok_node
    (ok_node
    (ok_leaf (ok_iconst (show decode cX7_keepIfItFits 89 = .ok (.iconst 1, 1) by decide +kernel) (by decide +kernel)))
    (ok_leaf (ok_iadd (show decode cX7_keepIfItFits 90 = .ok (.iadd, 1) by decide +kernel))))
    (ok_node
    (ok_leaf (ok_putI (show decode cX7_keepIfItFits 91 = .ok (.putfield 45, 3) by decide +kernel) (Or.inl (fd_X7 (by decide) wd_214 rfl rfl)) rfl))
    (ok_leaf (ok_return (show decode cX7_keepIfItFits 94 = .ok (.return_, 1) by decide +kernel) rfl)))))))
set_option maxRecDepth 20000 in
set_option maxHeartbeats 4000000 in
theorem ok_X8_init {sc : List Int32} : ∀ pc, pOk mtOf 189 M_X8_init false sc pc (cd_X8_init pc) := by
  unfold cd_X8_init
  exact ok_node
    (ok_node
    (ok_node
    (ok_leaf (ok_aload_n (show decode cX8_init 0 = .ok (.aload_n 0, 1) by decide +kernel) rfl))
    (ok_leaf (ok_obj (show decode cX8_init 1 = .ok (.invokespecial 3, 3) by decide +kernel) wd_290 wd_1 wd_2)))
    (ok_node
    (ok_leaf (ok_aload_n (show decode cX8_init 4 = .ok (.aload_n 0, 1) by decide +kernel) rfl))
    (ok_node
    (ok_leaf (ok_bipush (show decode cX8_init 5 = .ok (.bipush 120, 2) by decide +kernel) (by decide +kernel)))
    (ok_leaf (ok_newarray (show decode cX8_init 7 = .ok (.newarray .int, 2) by decide +kernel) wd_3)))))
    (ok_node
    (ok_node
    (ok_leaf (ok_putR (show decode cX8_init 9 = .ok (.putfield 11, 3) by decide +kernel) (Or.inr ⟨fdF_X8 (by decide) wd_291 rfl rfl, rfl, fun r hr => by cases hr; rfl⟩) (Or.inr ⟨_, rfl⟩)))
    (ok_node
    (ok_leaf (ok_aload_n (show decode cX8_init 12 = .ok (.aload_n 0, 1) by decide +kernel) rfl))
    (ok_leaf (ok_bipush (show decode cX8_init 13 = .ok (.bipush 40, 2) by decide +kernel) (by decide +kernel)))))
    (ok_node
    (ok_leaf (ok_newarray (show decode cX8_init 15 = .ok (.newarray .int, 2) by decide +kernel) wd_3))
    (ok_node
    (ok_leaf (ok_putR (show decode cX8_init 17 = .ok (.putfield 17, 3) by decide +kernel) (Or.inr ⟨fdF_X8 (by decide) wd_292 rfl rfl, rfl, fun r hr => by cases hr; rfl⟩) (Or.inr ⟨_, rfl⟩)))
    (ok_leaf (ok_return (show decode cX8_init 20 = .ok (.return_, 1) by decide +kernel) rfl)))))
set_option maxRecDepth 20000 in
set_option maxHeartbeats 4000000 in
theorem ok_X8_length {sc : List Int32} : ∀ pc, pOk mtOf 189 M_X8_length false sc pc (cd_X8_length pc) := by
  unfold cd_X8_length
  exact ok_node
    (ok_leaf (ok_aload_n (show decode cX8_length 0 = .ok (.aload_n 0, 1) by decide +kernel) rfl))
    (ok_node
    (ok_leaf (ok_getfield (show decode cX8_length 1 = .ok (.getfield 20, 3) by decide +kernel) (Or.inl (fd_X8 (by decide) wd_293 rfl rfl))))
    (ok_leaf (ok_ireturn (show decode cX8_length 4 = .ok (.ireturn, 1) by decide +kernel) rfl)))
