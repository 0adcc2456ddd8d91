set_option maxRecDepth 20000 in
set_option maxHeartbeats 4000000 in
theorem ok_L_law {sc : List Int32} : ∀ pc, pOk mtOf 189 M_L_law true sc pc (cd_L_law sc pc) := by
  unfold cd_L_law
  exact ok_node
    (ok_node
    (ok_node
    (ok_node
    (ok_node
    (ok_node
    (ok_node
    (ok_node
    (ok_leaf (ok_new (C := RX10) (T := TX10) (N := 12) (show decode cL_law 0 = .ok (.new 7, 3) by decide +kernel) rfl in_X10 tyX10_ok wd_788 wd_789 wd_65 (by decide +kernel) rfl (fun _ _ => rfl)))
    (ok_leaf (ok_dup (show decode cL_law 3 = .ok (.dup, 1) by decide +kernel))))
    (ok_node
    (ok_leaf (ok_callI (Mc := M_X10_init) (show decode cL_law 4 = .ok (.invokespecial 9, 3) by decide +kernel) rfl (by decide) (by decide +kernel) rfl rfl wd_790 wd_791 wd_65 wd_792 ⟨by decide +kernel, by decide +kernel, by decide +kernel⟩ (by decide)))
    (ok_node
    (ok_leaf (ok_astore_n (show decode cL_law 7 = .ok (.astore_n 1, 1) by decide +kernel) rfl))
    (ok_leaf (ok_new (C := RX11) (T := TX11) (N := 31) (show decode cL_law 8 = .ok (.new 10, 3) by decide +kernel) rfl in_X11 tyX11_ok wd_793 wd_794 wd_558 (by decide +kernel) rfl (fun _ _ => rfl))))))
    (ok_node
    (ok_node
    (ok_leaf (ok_dup (show decode cL_law 11 = .ok (.dup, 1) by decide +kernel)))
    (ok_node
    (ok_leaf (ok_callI (Mc := M_X11_init) (show decode cL_law 12 = .ok (.invokespecial 12, 3) by decide +kernel) rfl (by decide) (by decide +kernel) rfl rfl wd_795 wd_796 wd_558 wd_797 ⟨by decide +kernel, by decide +kernel, by decide +kernel⟩ (by decide)))
    (ok_leaf (ok_astore_n (show decode cL_law 15 = .ok (.astore_n 2, 1) by decide +kernel) rfl))))
    (ok_node
    (ok_leaf (ok_iconst (show decode cL_law 16 = .ok (.iconst 0, 1) by decide +kernel) (by decide +kernel)))
    (ok_node
    (ok_leaf (ok_istore_n (show decode cL_law 17 = .ok (.istore_n 3, 1) by decide +kernel) rfl))
    (ok_leaf (ok_iload_n (show decode cL_law 18 = .ok (.iload_n 3, 1) by decide +kernel) rfl))))))
    (ok_node
    (ok_node
    (ok_node
    (ok_leaf (ok_aload_n (show decode cL_law 19 = .ok (.aload_n 0, 1) by decide +kernel) rfl))
    (ok_leaf (ok_slen (show decode cL_law 20 = .ok (.arraylength, 1) by decide +kernel))))
    (ok_node
    (ok_leaf (ok_iconst (show decode cL_law 21 = .ok (.iconst 5, 1) by decide +kernel) (by decide +kernel)))
    (ok_node
    (ok_leaf (ok_isub (show decode cL_law 22 = .ok (.isub, 1) by decide +kernel)))
    (ok_leaf (ok_icmp_gt (show decode cL_law 23 = .ok (.if_icmp .gt 541, 3) by decide +kernel) (by decide +kernel))))))
    (ok_node
    (ok_node
    (ok_leaf (ok_aload_n (show decode cL_law 26 = .ok (.aload_n 0, 1) by decide +kernel) rfl))
    (ok_node
    (ok_leaf (ok_iload_n (show decode cL_law 27 = .ok (.iload_n 3, 1) by decide +kernel) rfl))
    (ok_leaf (ok_sld (show decode cL_law 28 = .ok (.iaload, 1) by decide +kernel)))))
    (ok_node
    (ok_leaf (ok_bipush (show decode cL_law 29 = .ok (.bipush 31, 2) by decide +kernel) (by decide +kernel)))
    (ok_node
    (ok_leaf (ok_iand (show decode cL_law 31 = .ok (.iand, 1) by decide +kernel)))
    (ok_leaf (ok_table (show decode cL_law 32 = .ok (.tableswitch 526 0 16 #[84, 107, 120, 133, 156, 179, 222, 255, 278, 311, 324, 347, 390, 443, 476, 489, 512], 84) by decide +kernel) (by decide +kernel) (by decide +kernel) (by decide +kernel) (by decide +kernel))))))))
    (ok_node
    (ok_node
    (ok_node
    (ok_node
    (ok_leaf (ok_aload_n (show decode cL_law 116 = .ok (.aload_n 1, 1) by decide +kernel) rfl))
    (ok_leaf (ok_aload_n (show decode cL_law 117 = .ok (.aload_n 0, 1) by decide +kernel) rfl)))
    (ok_node
    (ok_leaf (ok_iload_n (show decode cL_law 118 = .ok (.iload_n 3, 1) by decide +kernel) rfl))
    (ok_node
    (ok_leaf (ok_iconst (show decode cL_law 119 = .ok (.iconst 1, 1) by decide +kernel) (by decide +kernel)))
    (ok_leaf (ok_iadd (show decode cL_law 120 = .ok (.iadd, 1) by decide +kernel))))))
    (ok_node
    (ok_node
    (ok_leaf (ok_sld (show decode cL_law 121 = .ok (.iaload, 1) by decide +kernel)))
    (ok_node
    (ok_leaf (ok_callV (C := RX10) (T := TX10) (N := 12) (Mc := M_X10_type) (show decode cL_law 122 = .ok (.invokevirtual 13, 3) by decide +kernel) rfl (by decide) (by decide +kernel) rfl rfl wd_798 wd_799 wd_800 wd_65 wd_801 ⟨by decide +kernel, by decide +kernel, by decide +kernel⟩ (by decide)))
    (ok_leaf (ok_aload_n (show decode cL_law 125 = .ok (.aload_n 2, 1) by decide +kernel) rfl))))
    (ok_node
    (ok_leaf (ok_aload_n (show decode cL_law 126 = .ok (.aload_n 0, 1) by decide +kernel) rfl))
    (ok_node
    (ok_leaf (ok_iload_n (show decode cL_law 127 = .ok (.iload_n 3, 1) by decide +kernel) rfl))
    (ok_leaf (ok_iconst (show decode cL_law 128 = .ok (.iconst 1, 1) by decide +kernel) (by decide +kernel)))))))
    (ok_node
    (ok_node
    (ok_node
    (ok_leaf (ok_iadd (show decode cL_law 129 = .ok (.iadd, 1) by decide +kernel)))
    (ok_node
    (ok_leaf (ok_sld (show decode cL_law 130 = .ok (.iaload, 1) by decide +kernel)))
    (ok_leaf (ok_callV (C := RX11) (T := TX11) (N := 31) (Mc := M_X11_type) (show decode cL_law 131 = .ok (.invokevirtual 17, 3) by decide +kernel) rfl (by decide) (by decide +kernel) rfl rfl wd_802 wd_803 wd_804 wd_558 wd_805 ⟨by decide +kernel, by decide +kernel, by decide +kernel⟩ (by decide)))))
    (ok_node
    (ok_leaf (ok_icmp_eq (show decode cL_law 134 = .ok (.if_icmp .eq 424, 3) by decide +kernel) (by decide +kernel)))
    (ok_node
    (ok_leaf (ok_iconst (show decode cL_law 137 = .ok (.iconst 0, 1) by decide +kernel) (by decide +kernel)))
    (ok_leaf (ok_zreturn (show decode cL_law 138 = .ok (.ireturn, 1) by decide +kernel) rfl)))))
    (ok_node
    (ok_node
    (ok_leaf (ok_aload_n (show decode cL_law 139 = .ok (.aload_n 1, 1) by decide +kernel) rfl))
    (ok_node
    (ok_leaf (ok_callV (C := RX10) (T := TX10) (N := 12) (Mc := M_X10_clear) (show decode cL_law 140 = .ok (.invokevirtual 18, 3) by decide +kernel) rfl (by decide) (by decide +kernel) rfl rfl wd_806 wd_807 wd_808 wd_65 wd_809 ⟨by decide +kernel, by decide +kernel, by decide +kernel⟩ (by decide)))
    (ok_leaf (ok_aload_n (show decode cL_law 143 = .ok (.aload_n 2, 1) by decide +kernel) rfl))))
    (ok_node
    (ok_leaf (ok_callV (C := RX11) (T := TX11) (N := 31) (Mc := M_X11_clear) (show decode cL_law 144 = .ok (.invokevirtual 22, 3) by decide +kernel) rfl (by decide) (by decide +kernel) rfl rfl wd_810 wd_811 wd_812 wd_558 wd_813 ⟨by decide +kernel, by decide +kernel, by decide +kernel⟩ (by decide)))
    (ok_node
    (ok_leaf (ok_icmp_eq (show decode cL_law 147 = .ok (.if_icmp .eq 411, 3) by decide +kernel) (by decide +kernel)))
    (ok_leaf (ok_iconst (show decode cL_law 150 = .ok (.iconst 0, 1) by decide +kernel) (by decide +kernel)))))))))
    (ok_node
    (ok_node
    (ok_node
    (ok_node
    (ok_node
    (ok_leaf (ok_zreturn (show decode cL_law 151 = .ok (.ireturn, 1) by decide +kernel) rfl))
    (ok_leaf (ok_aload_n (show decode cL_law 152 = .ok (.aload_n 1, 1) by decide +kernel) rfl)))
    (ok_node
    (ok_leaf (ok_callV (C := RX10) (T := TX10) (N := 12) (Mc := M_X10_reads) (show decode cL_law 153 = .ok (.invokevirtual 23, 3) by decide +kernel) rfl (by decide) (by decide +kernel) rfl rfl wd_814 wd_815 wd_816 wd_65 wd_817 ⟨by decide +kernel, by decide +kernel, by decide +kernel⟩ (by decide)))
    (ok_node
    (ok_leaf (ok_aload_n (show decode cL_law 156 = .ok (.aload_n 2, 1) by decide +kernel) rfl))
    (ok_leaf (ok_callV (C := RX11) (T := TX11) (N := 31) (Mc := M_X11_reads) (show decode cL_law 157 = .ok (.invokevirtual 26, 3) by decide +kernel) rfl (by decide) (by decide +kernel) rfl rfl wd_818 wd_819 wd_820 wd_558 wd_821 ⟨by decide +kernel, by decide +kernel, by decide +kernel⟩ (by decide))))))
    (ok_node
    (ok_node
    (ok_leaf (ok_icmp_eq (show decode cL_law 160 = .ok (.if_icmp .eq 398, 3) by decide +kernel) (by decide +kernel)))
    (ok_node
    (ok_leaf (ok_iconst (show decode cL_law 163 = .ok (.iconst 0, 1) by decide +kernel) (by decide +kernel)))
    (ok_leaf (ok_zreturn (show decode cL_law 164 = .ok (.ireturn, 1) by decide +kernel) rfl))))
    (ok_node
    (ok_leaf (ok_aload_n (show decode cL_law 165 = .ok (.aload_n 1, 1) by decide +kernel) rfl))
    (ok_node
    (ok_leaf (ok_aload_n (show decode cL_law 166 = .ok (.aload_n 0, 1) by decide +kernel) rfl))
    (ok_leaf (ok_iload_n (show decode cL_law 167 = .ok (.iload_n 3, 1) by decide +kernel) rfl))))))
    (ok_node
    (ok_node
    (ok_node
    (ok_leaf (ok_iconst (show decode cL_law 168 = .ok (.iconst 1, 1) by decide +kernel) (by decide +kernel)))
    (ok_node
    (ok_leaf (ok_iadd (show decode cL_law 169 = .ok (.iadd, 1) by decide +kernel)))
    (ok_leaf (ok_sld (show decode cL_law 170 = .ok (.iaload, 1) by decide +kernel)))))
    (ok_node
    (ok_leaf (ok_callV (C := RX10) (T := TX10) (N := 12) (Mc := M_X10_drops) (show decode cL_law 171 = .ok (.invokevirtual 27, 3) by decide +kernel) rfl (by decide) (by decide +kernel) rfl rfl wd_822 wd_823 wd_824 wd_65 wd_825 ⟨by decide +kernel, by decide +kernel, by decide +kernel⟩ (by decide)))
    (ok_node
    (ok_leaf (ok_aload_n (show decode cL_law 174 = .ok (.aload_n 2, 1) by decide +kernel) rfl))
    (ok_leaf (ok_aload_n (show decode cL_law 175 = .ok (.aload_n 0, 1) by decide +kernel) rfl)))))
    (ok_node
    (ok_node
    (ok_leaf (ok_iload_n (show decode cL_law 176 = .ok (.iload_n 3, 1) by decide +kernel) rfl))
    (ok_node
    (ok_leaf (ok_iconst (show decode cL_law 177 = .ok (.iconst 1, 1) by decide +kernel) (by decide +kernel)))
    (ok_leaf (ok_iadd (show decode cL_law 178 = .ok (.iadd, 1) by decide +kernel)))))
    (ok_node
    (ok_leaf (ok_sld (show decode cL_law 179 = .ok (.iaload, 1) by decide +kernel)))
    (ok_node
    (ok_leaf (ok_callV (C := RX11) (T := TX11) (N := 31) (Mc := M_X11_drops) (show decode cL_law 180 = .ok (.invokevirtual 30, 3) by decide +kernel) rfl (by decide) (by decide +kernel) rfl rfl wd_826 wd_827 wd_828 wd_558 wd_829 ⟨by decide +kernel, by decide +kernel, by decide +kernel⟩ (by decide)))
    (ok_leaf (ok_icmp_eq (show decode cL_law 183 = .ok (.if_icmp .eq 375, 3) by decide +kernel) (by decide +kernel))))))))
    (ok_node
    (ok_node
    (ok_node
    (ok_node
    (ok_leaf (ok_iconst (show decode cL_law 186 = .ok (.iconst 0, 1) by decide +kernel) (by decide +kernel)))
    (ok_leaf (ok_zreturn (show decode cL_law 187 = .ok (.ireturn, 1) by decide +kernel) rfl)))
    (ok_node
    (ok_leaf (ok_aload_n (show decode cL_law 188 = .ok (.aload_n 1, 1) by decide +kernel) rfl))
    (ok_node
    (ok_leaf (ok_aload_n (show decode cL_law 189 = .ok (.aload_n 0, 1) by decide +kernel) rfl))
    (ok_leaf (ok_iload_n (show decode cL_law 190 = .ok (.iload_n 3, 1) by decide +kernel) rfl)))))
    (ok_node
    (ok_node
    (ok_leaf (ok_iconst (show decode cL_law 191 = .ok (.iconst 1, 1) by decide +kernel) (by decide +kernel)))
    (ok_node
    (ok_leaf (ok_iadd (show decode cL_law 192 = .ok (.iadd, 1) by decide +kernel)))
    (ok_leaf (ok_sld (show decode cL_law 193 = .ok (.iaload, 1) by decide +kernel)))))
    (ok_node
    (ok_leaf (ok_callV (C := RX10) (T := TX10) (N := 12) (Mc := M_X10_turns) (show decode cL_law 194 = .ok (.invokevirtual 31, 3) by decide +kernel) rfl (by decide) (by decide +kernel) rfl rfl wd_830 wd_831 wd_832 wd_65 wd_833 ⟨by decide +kernel, by decide +kernel, by decide +kernel⟩ (by decide)))
    (ok_node
    (ok_leaf (ok_aload_n (show decode cL_law 197 = .ok (.aload_n 2, 1) by decide +kernel) rfl))
    (ok_leaf (ok_aload_n (show decode cL_law 198 = .ok (.aload_n 0, 1) by decide +kernel) rfl))))))
    (ok_node
    (ok_node
    (ok_node
    (ok_leaf (ok_iload_n (show decode cL_law 199 = .ok (.iload_n 3, 1) by decide +kernel) rfl))
    (ok_node
    (ok_leaf (ok_iconst (show decode cL_law 200 = .ok (.iconst 1, 1) by decide +kernel) (by decide +kernel)))
    (ok_leaf (ok_iadd (show decode cL_law 201 = .ok (.iadd, 1) by decide +kernel)))))
    (ok_node
    (ok_leaf (ok_sld (show decode cL_law 202 = .ok (.iaload, 1) by decide +kernel)))
    (ok_node
    (ok_leaf (ok_callV (C := RX11) (T := TX11) (N := 31) (Mc := M_X11_turns) (show decode cL_law 203 = .ok (.invokevirtual 34, 3) by decide +kernel) rfl (by decide) (by decide +kernel) rfl rfl wd_834 wd_835 wd_836 wd_558 wd_837 ⟨by decide +kernel, by decide +kernel, by decide +kernel⟩ (by decide)))
    (ok_leaf (ok_icmp_eq (show decode cL_law 206 = .ok (.if_icmp .eq 352, 3) by decide +kernel) (by decide +kernel))))))
    (ok_node
    (ok_node
    (ok_leaf (ok_iconst (show decode cL_law 209 = .ok (.iconst 0, 1) by decide +kernel) (by decide +kernel)))
    (ok_node
    (ok_leaf (ok_zreturn (show decode cL_law 210 = .ok (.ireturn, 1) by decide +kernel) rfl))
    (ok_leaf (ok_aload_n (show decode cL_law 211 = .ok (.aload_n 1, 1) by decide +kernel) rfl))))
    (ok_node
    (ok_leaf (ok_aload_n (show decode cL_law 212 = .ok (.aload_n 0, 1) by decide +kernel) rfl))
    (ok_node
    (ok_leaf (ok_iload_n (show decode cL_law 213 = .ok (.iload_n 3, 1) by decide +kernel) rfl))
    (ok_leaf (ok_iconst (show decode cL_law 214 = .ok (.iconst 1, 1) by decide +kernel) (by decide +kernel))))))))))
    (ok_node
    (ok_node
    (ok_node
    (ok_node
    (ok_node
    (ok_node
    (ok_leaf (ok_iadd (show decode cL_law 215 = .ok (.iadd, 1) by decide +kernel)))
    (ok_leaf (ok_sld (show decode cL_law 216 = .ok (.iaload, 1) by decide +kernel))))
    (ok_node
    (ok_leaf (ok_aload_n (show decode cL_law 217 = .ok (.aload_n 0, 1) by decide +kernel) rfl))
    (ok_node
    (ok_leaf (ok_iload_n (show decode cL_law 218 = .ok (.iload_n 3, 1) by decide +kernel) rfl))
    (ok_leaf (ok_iconst (show decode cL_law 219 = .ok (.iconst 2, 1) by decide +kernel) (by decide +kernel))))))
    (ok_node
    (ok_node
    (ok_leaf (ok_iadd (show decode cL_law 220 = .ok (.iadd, 1) by decide +kernel)))
    (ok_node
    (ok_leaf (ok_sld (show decode cL_law 221 = .ok (.iaload, 1) by decide +kernel)))
    (ok_leaf (ok_aload_n (show decode cL_law 222 = .ok (.aload_n 0, 1) by decide +kernel) rfl))))
    (ok_node
    (ok_leaf (ok_iload_n (show decode cL_law 223 = .ok (.iload_n 3, 1) by decide +kernel) rfl))
    (ok_node
    (ok_leaf (ok_iconst (show decode cL_law 224 = .ok (.iconst 3, 1) by decide +kernel) (by decide +kernel)))
    (ok_leaf (ok_iadd (show decode cL_law 225 = .ok (.iadd, 1) by decide +kernel)))))))
    (ok_node
    (ok_node
    (ok_node
    (ok_leaf (ok_sld (show decode cL_law 226 = .ok (.iaload, 1) by decide +kernel)))
    (ok_node
    (ok_leaf (ok_callV (C := RX10) (T := TX10) (N := 12) (Mc := M_X10_of) (show decode cL_law 227 = .ok (.invokevirtual 35, 3) by decide +kernel) rfl (by decide) (by decide +kernel) rfl rfl wd_838 wd_839 wd_840 wd_65 wd_841 ⟨by decide +kernel, by decide +kernel, by decide +kernel⟩ (by decide)))
    (ok_leaf (ok_aload_n (show decode cL_law 230 = .ok (.aload_n 2, 1) by decide +kernel) rfl))))
    (ok_node
    (ok_leaf (ok_aload_n (show decode cL_law 231 = .ok (.aload_n 0, 1) by decide +kernel) rfl))
    (ok_node
    (ok_leaf (ok_iload_n (show decode cL_law 232 = .ok (.iload_n 3, 1) by decide +kernel) rfl))
    (ok_leaf (ok_iconst (show decode cL_law 233 = .ok (.iconst 1, 1) by decide +kernel) (by decide +kernel))))))
    (ok_node
    (ok_node
    (ok_leaf (ok_iadd (show decode cL_law 234 = .ok (.iadd, 1) by decide +kernel)))
    (ok_node
    (ok_leaf (ok_sld (show decode cL_law 235 = .ok (.iaload, 1) by decide +kernel)))
    (ok_leaf (ok_aload_n (show decode cL_law 236 = .ok (.aload_n 0, 1) by decide +kernel) rfl))))
    (ok_node
    (ok_leaf (ok_iload_n (show decode cL_law 237 = .ok (.iload_n 3, 1) by decide +kernel) rfl))
    (ok_node
    (ok_leaf (ok_iconst (show decode cL_law 238 = .ok (.iconst 2, 1) by decide +kernel) (by decide +kernel)))
    (ok_leaf (ok_iadd (show decode cL_law 239 = .ok (.iadd, 1) by decide +kernel))))))))
    (ok_node
    (ok_node
    (ok_node
    (ok_node
    (ok_leaf (ok_sld (show decode cL_law 240 = .ok (.iaload, 1) by decide +kernel)))
    (ok_leaf (ok_aload_n (show decode cL_law 241 = .ok (.aload_n 0, 1) by decide +kernel) rfl)))
    (ok_node
    (ok_leaf (ok_iload_n (show decode cL_law 242 = .ok (.iload_n 3, 1) by decide +kernel) rfl))
    (ok_node
    (ok_leaf (ok_iconst (show decode cL_law 243 = .ok (.iconst 3, 1) by decide +kernel) (by decide +kernel)))
    (ok_leaf (ok_iadd (show decode cL_law 244 = .ok (.iadd, 1) by decide +kernel))))))
    (ok_node
    (ok_node
    (ok_leaf (ok_sld (show decode cL_law 245 = .ok (.iaload, 1) by decide +kernel)))
    (ok_node
    (ok_leaf (ok_callV (C := RX11) (T := TX11) (N := 31) (Mc := M_X11_of) (show decode cL_law 246 = .ok (.invokevirtual 39, 3) by decide +kernel) rfl (by decide) (by decide +kernel) rfl rfl wd_842 wd_843 wd_844 wd_558 wd_845 ⟨by decide +kernel, by decide +kernel, by decide +kernel⟩ (by decide)))
    (ok_leaf (ok_icmp_eq (show decode cL_law 249 = .ok (.if_icmp .eq 309, 3) by decide +kernel) (by decide +kernel)))))
    (ok_node
    (ok_leaf (ok_iconst (show decode cL_law 252 = .ok (.iconst 0, 1) by decide +kernel) (by decide +kernel)))
    (ok_node
    (ok_leaf (ok_zreturn (show decode cL_law 253 = .ok (.ireturn, 1) by decide +kernel) rfl))
    (ok_leaf (ok_aload_n (show decode cL_law 254 = .ok (.aload_n 1, 1) by decide +kernel) rfl))))))
    (ok_node
    (ok_node
    (ok_node
    (ok_leaf (ok_aload_n (show decode cL_law 255 = .ok (.aload_n 0, 1) by decide +kernel) rfl))
    (ok_node
    (ok_leaf (ok_iload_n (show decode cL_law 256 = .ok (.iload_n 3, 1) by decide +kernel) rfl))
    (ok_leaf (ok_iconst (show decode cL_law 257 = .ok (.iconst 1, 1) by decide +kernel) (by decide +kernel)))))
    (ok_node
    (ok_leaf (ok_iadd (show decode cL_law 258 = .ok (.iadd, 1) by decide +kernel)))
    (ok_node
    (ok_leaf (ok_sld (show decode cL_law 259 = .ok (.iaload, 1) by decide +kernel)))
    (ok_leaf (ok_aload_n (show decode cL_law 260 = .ok (.aload_n 0, 1) by decide +kernel) rfl)))))
    (ok_node
    (ok_node
    (ok_leaf (ok_iload_n (show decode cL_law 261 = .ok (.iload_n 3, 1) by decide +kernel) rfl))
    (ok_node
    (ok_leaf (ok_iconst (show decode cL_law 262 = .ok (.iconst 2, 1) by decide +kernel) (by decide +kernel)))
    (ok_leaf (ok_iadd (show decode cL_law 263 = .ok (.iadd, 1) by decide +kernel)))))
    (ok_node
    (ok_leaf (ok_sld (show decode cL_law 264 = .ok (.iaload, 1) by decide +kernel)))
    (ok_node
    (ok_leaf (ok_callV (C := RX10) (T := TX10) (N := 12) (Mc := M_X10_shown) (show decode cL_law 265 = .ok (.invokevirtual 40, 3) by decide +kernel) rfl (by decide) (by decide +kernel) rfl rfl wd_846 wd_847 wd_848 wd_65 wd_849 ⟨by decide +kernel, by decide +kernel, by decide +kernel⟩ (by decide)))
    (ok_leaf (ok_aload_n (show decode cL_law 268 = .ok (.aload_n 2, 1) by decide +kernel) rfl))))))))
    (ok_node
    (ok_node
    (ok_node
    (ok_node
    (ok_node
    (ok_leaf (ok_aload_n (show decode cL_law 269 = .ok (.aload_n 0, 1) by decide +kernel) rfl))
    (ok_leaf (ok_iload_n (show decode cL_law 270 = .ok (.iload_n 3, 1) by decide +kernel) rfl)))
    (ok_node
    (ok_leaf (ok_iconst (show decode cL_law 271 = .ok (.iconst 1, 1) by decide +kernel) (by decide +kernel)))
    (ok_node
    (ok_leaf (ok_iadd (show decode cL_law 272 = .ok (.iadd, 1) by decide +kernel)))
    (ok_leaf (ok_sld (show decode cL_law 273 = .ok (.iaload, 1) by decide +kernel))))))
    (ok_node
    (ok_node
    (ok_leaf (ok_aload_n (show decode cL_law 274 = .ok (.aload_n 0, 1) by decide +kernel) rfl))
    (ok_node
    (ok_leaf (ok_iload_n (show decode cL_law 275 = .ok (.iload_n 3, 1) by decide +kernel) rfl))
    (ok_leaf (ok_iconst (show decode cL_law 276 = .ok (.iconst 2, 1) by decide +kernel) (by decide +kernel)))))
    (ok_node
    (ok_leaf (ok_iadd (show decode cL_law 277 = .ok (.iadd, 1) by decide +kernel)))
    (ok_node
    (ok_leaf (ok_sld (show decode cL_law 278 = .ok (.iaload, 1) by decide +kernel)))
    (ok_leaf (ok_callV (C := RX11) (T := TX11) (N := 31) (Mc := M_X11_shown) (show decode cL_law 279 = .ok (.invokevirtual 44, 3) by decide +kernel) rfl (by decide) (by decide +kernel) rfl rfl wd_850 wd_851 wd_852 wd_558 wd_853 ⟨by decide +kernel, by decide +kernel, by decide +kernel⟩ (by decide)))))))
    (ok_node
    (ok_node
    (ok_node
    (ok_leaf (ok_icmp_eq (show decode cL_law 282 = .ok (.if_icmp .eq 276, 3) by decide +kernel) (by decide +kernel)))
    (ok_node
    (ok_leaf (ok_iconst (show decode cL_law 285 = .ok (.iconst 0, 1) by decide +kernel) (by decide +kernel)))
    (ok_leaf (ok_zreturn (show decode cL_law 286 = .ok (.ireturn, 1) by decide +kernel) rfl))))
    (ok_node
    (ok_leaf (ok_aload_n (show decode cL_law 287 = .ok (.aload_n 1, 1) by decide +kernel) rfl))
    (ok_node
    (ok_leaf (ok_aload_n (show decode cL_law 288 = .ok (.aload_n 0, 1) by decide +kernel) rfl))
    (ok_leaf (ok_iload_n (show decode cL_law 289 = .ok (.iload_n 3, 1) by decide +kernel) rfl)))))
    (ok_node
    (ok_node
    (ok_leaf (ok_iconst (show decode cL_law 290 = .ok (.iconst 1, 1) by decide +kernel) (by decide +kernel)))
    (ok_node
    (ok_leaf (ok_iadd (show decode cL_law 291 = .ok (.iadd, 1) by decide +kernel)))
    (ok_leaf (ok_sld (show decode cL_law 292 = .ok (.iaload, 1) by decide +kernel)))))
    (ok_node
    (ok_leaf (ok_callV (C := RX10) (T := TX10) (N := 12) (Mc := M_X10_pairs) (show decode cL_law 293 = .ok (.invokevirtual 45, 3) by decide +kernel) rfl (by decide) (by decide +kernel) rfl rfl wd_854 wd_855 wd_856 wd_65 wd_857 ⟨by decide +kernel, by decide +kernel, by decide +kernel⟩ (by decide)))
    (ok_node
    (ok_leaf (ok_aload_n (show decode cL_law 296 = .ok (.aload_n 2, 1) by decide +kernel) rfl))
    (ok_leaf (ok_aload_n (show decode cL_law 297 = .ok (.aload_n 0, 1) by decide +kernel) rfl)))))))
    (ok_node
    (ok_node
    (ok_node
    (ok_node
    (ok_leaf (ok_iload_n (show decode cL_law 298 = .ok (.iload_n 3, 1) by decide +kernel) rfl))
    (ok_leaf (ok_iconst (show decode cL_law 299 = .ok (.iconst 1, 1) by decide +kernel) (by decide +kernel))))
    (ok_node
    (ok_leaf (ok_iadd (show decode cL_law 300 = .ok (.iadd, 1) by decide +kernel)))
    (ok_node
    (ok_leaf (ok_sld (show decode cL_law 301 = .ok (.iaload, 1) by decide +kernel)))
    (ok_leaf (ok_callV (C := RX11) (T := TX11) (N := 31) (Mc := M_X11_pairs) (show decode cL_law 302 = .ok (.invokevirtual 48, 3) by decide +kernel) rfl (by decide) (by decide +kernel) rfl rfl wd_858 wd_859 wd_860 wd_558 wd_861 ⟨by decide +kernel, by decide +kernel, by decide +kernel⟩ (by decide))))))
    (ok_node
    (ok_node
    (ok_leaf (ok_icmp_eq (show decode cL_law 305 = .ok (.if_icmp .eq 253, 3) by decide +kernel) (by decide +kernel)))
    (ok_node
    (ok_leaf (ok_iconst (show decode cL_law 308 = .ok (.iconst 0, 1) by decide +kernel) (by decide +kernel)))
    (ok_leaf (ok_zreturn (show decode cL_law 309 = .ok (.ireturn, 1) by decide +kernel) rfl))))
    (ok_node
    (ok_leaf (ok_aload_n (show decode cL_law 310 = .ok (.aload_n 1, 1) by decide +kernel) rfl))
    (ok_node
    (ok_leaf (ok_aload_n (show decode cL_law 311 = .ok (.aload_n 0, 1) by decide +kernel) rfl))
    (ok_leaf (ok_iload_n (show decode cL_law 312 = .ok (.iload_n 3, 1) by decide +kernel) rfl))))))
    (ok_node
    (ok_node
    (ok_node
    (ok_leaf (ok_iconst (show decode cL_law 313 = .ok (.iconst 1, 1) by decide +kernel) (by decide +kernel)))
    (ok_node
    (ok_leaf (ok_iadd (show decode cL_law 314 = .ok (.iadd, 1) by decide +kernel)))
    (ok_leaf (ok_sld (show decode cL_law 315 = .ok (.iaload, 1) by decide +kernel)))))
    (ok_node
    (ok_leaf (ok_aload_n (show decode cL_law 316 = .ok (.aload_n 0, 1) by decide +kernel) rfl))
    (ok_node
    (ok_leaf (ok_iload_n (show decode cL_law 317 = .ok (.iload_n 3, 1) by decide +kernel) rfl))
    (ok_leaf (ok_iconst (show decode cL_law 318 = .ok (.iconst 2, 1) by decide +kernel) (by decide +kernel))))))
    (ok_node
    (ok_node
    (ok_leaf (ok_iadd (show decode cL_law 319 = .ok (.iadd, 1) by decide +kernel)))
    (ok_node
    (ok_leaf (ok_sld (show decode cL_law 320 = .ok (.iaload, 1) by decide +kernel)))
    (ok_leaf (ok_callV (C := RX10) (T := TX10) (N := 12) (Mc := M_X10_pair) (show decode cL_law 321 = .ok (.invokevirtual 49, 3) by decide +kernel) rfl (by decide) (by decide +kernel) rfl rfl wd_862 wd_863 wd_864 wd_65 wd_865 ⟨by decide +kernel, by decide +kernel, by decide +kernel⟩ (by decide)))))
    (ok_node
    (ok_leaf (ok_aload_n (show decode cL_law 324 = .ok (.aload_n 2, 1) by decide +kernel) rfl))
    (ok_node
    (ok_leaf (ok_aload_n (show decode cL_law 325 = .ok (.aload_n 0, 1) by decide +kernel) rfl))
    (ok_leaf (ok_iload_n (show decode cL_law 326 = .ok (.iload_n 3, 1) by decide +kernel) rfl))))))))))
    (ok_node
    (ok_node
    (ok_node
    (ok_node
    (ok_node
    (ok_node
    (ok_node
    (ok_leaf (ok_iconst (show decode cL_law 327 = .ok (.iconst 1, 1) by decide +kernel) (by decide +kernel)))
    (ok_leaf (ok_iadd (show decode cL_law 328 = .ok (.iadd, 1) by decide +kernel))))
    (ok_node
    (ok_leaf (ok_sld (show decode cL_law 329 = .ok (.iaload, 1) by decide +kernel)))
    (ok_node
    (ok_leaf (ok_aload_n (show decode cL_law 330 = .ok (.aload_n 0, 1) by decide +kernel) rfl))
    (ok_leaf (ok_iload_n (show decode cL_law 331 = .ok (.iload_n 3, 1) by decide +kernel) rfl)))))
    (ok_node
    (ok_node
    (ok_leaf (ok_iconst (show decode cL_law 332 = .ok (.iconst 2, 1) by decide +kernel) (by decide +kernel)))
    (ok_node
    (ok_leaf (ok_iadd (show decode cL_law 333 = .ok (.iadd, 1) by decide +kernel)))
    (ok_leaf (ok_sld (show decode cL_law 334 = .ok (.iaload, 1) by decide +kernel)))))
    (ok_node
    (ok_leaf (ok_callV (C := RX11) (T := TX11) (N := 31) (Mc := M_X11_pair) (show decode cL_law 335 = .ok (.invokevirtual 52, 3) by decide +kernel) rfl (by decide) (by decide +kernel) rfl rfl wd_866 wd_867 wd_868 wd_558 wd_869 ⟨by decide +kernel, by decide +kernel, by decide +kernel⟩ (by decide)))
    (ok_node
    (ok_leaf (ok_icmp_eq (show decode cL_law 338 = .ok (.if_icmp .eq 220, 3) by decide +kernel) (by decide +kernel)))
    (ok_leaf (ok_iconst (show decode cL_law 341 = .ok (.iconst 0, 1) by decide +kernel) (by decide +kernel)))))))
    (ok_node
    (ok_node
    (ok_node
    (ok_leaf (ok_zreturn (show decode cL_law 342 = .ok (.ireturn, 1) by decide +kernel) rfl))
    (ok_leaf (ok_aload_n (show decode cL_law 343 = .ok (.aload_n 1, 1) by decide +kernel) rfl)))
    (ok_node
    (ok_leaf (ok_callV (C := RX10) (T := TX10) (N := 12) (Mc := M_X10_solutions) (show decode cL_law 344 = .ok (.invokevirtual 53, 3) by decide +kernel) rfl (by decide) (by decide +kernel) rfl rfl wd_870 wd_871 wd_872 wd_65 wd_873 ⟨by decide +kernel, by decide +kernel, by decide +kernel⟩ (by decide)))
    (ok_node
    (ok_leaf (ok_aload_n (show decode cL_law 347 = .ok (.aload_n 2, 1) by decide +kernel) rfl))
    (ok_leaf (ok_callV (C := RX11) (T := TX11) (N := 31) (Mc := M_X11_solutions) (show decode cL_law 348 = .ok (.invokevirtual 56, 3) by decide +kernel) rfl (by decide) (by decide +kernel) rfl rfl wd_874 wd_875 wd_876 wd_558 wd_877 ⟨by decide +kernel, by decide +kernel, by decide +kernel⟩ (by decide))))))
    (ok_node
    (ok_node
    (ok_leaf (ok_icmp_eq (show decode cL_law 351 = .ok (.if_icmp .eq 207, 3) by decide +kernel) (by decide +kernel)))
    (ok_node
    (ok_leaf (ok_iconst (show decode cL_law 354 = .ok (.iconst 0, 1) by decide +kernel) (by decide +kernel)))
    (ok_leaf (ok_zreturn (show decode cL_law 355 = .ok (.ireturn, 1) by decide +kernel) rfl))))
    (ok_node
    (ok_leaf (ok_aload_n (show decode cL_law 356 = .ok (.aload_n 1, 1) by decide +kernel) rfl))
    (ok_node
    (ok_leaf (ok_aload_n (show decode cL_law 357 = .ok (.aload_n 0, 1) by decide +kernel) rfl))
    (ok_leaf (ok_iload_n (show decode cL_law 358 = .ok (.iload_n 3, 1) by decide +kernel) rfl)))))))
    (ok_node
    (ok_node
    (ok_node
    (ok_node
    (ok_leaf (ok_iconst (show decode cL_law 359 = .ok (.iconst 1, 1) by decide +kernel) (by decide +kernel)))
    (ok_leaf (ok_iadd (show decode cL_law 360 = .ok (.iadd, 1) by decide +kernel))))
    (ok_node
    (ok_leaf (ok_sld (show decode cL_law 361 = .ok (.iaload, 1) by decide +kernel)))
    (ok_node
    (ok_leaf (ok_callV (C := RX10) (T := TX10) (N := 12) (Mc := M_X10_size) (show decode cL_law 362 = .ok (.invokevirtual 57, 3) by decide +kernel) rfl (by decide) (by decide +kernel) rfl rfl wd_878 wd_879 wd_880 wd_65 wd_881 ⟨by decide +kernel, by decide +kernel, by decide +kernel⟩ (by decide)))
    (ok_leaf (ok_aload_n (show decode cL_law 365 = .ok (.aload_n 2, 1) by decide +kernel) rfl)))))
    (ok_node
    (ok_node
    (ok_leaf (ok_aload_n (show decode cL_law 366 = .ok (.aload_n 0, 1) by decide +kernel) rfl))
    (ok_node
    (ok_leaf (ok_iload_n (show decode cL_law 367 = .ok (.iload_n 3, 1) by decide +kernel) rfl))
    (ok_leaf (ok_iconst (show decode cL_law 368 = .ok (.iconst 1, 1) by decide +kernel) (by decide +kernel)))))
    (ok_node
    (ok_leaf (ok_iadd (show decode cL_law 369 = .ok (.iadd, 1) by decide +kernel)))
    (ok_node
    (ok_leaf (ok_sld (show decode cL_law 370 = .ok (.iaload, 1) by decide +kernel)))
    (ok_leaf (ok_callV (C := RX11) (T := TX11) (N := 31) (Mc := M_X11_size) (show decode cL_law 371 = .ok (.invokevirtual 60, 3) by decide +kernel) rfl (by decide) (by decide +kernel) rfl rfl wd_882 wd_883 wd_884 wd_558 wd_885 ⟨by decide +kernel, by decide +kernel, by decide +kernel⟩ (by decide)))))))
    (ok_node
    (ok_node
    (ok_node
    (ok_leaf (ok_icmp_eq (show decode cL_law 374 = .ok (.if_icmp .eq 184, 3) by decide +kernel) (by decide +kernel)))
    (ok_node
    (ok_leaf (ok_iconst (show decode cL_law 377 = .ok (.iconst 0, 1) by decide +kernel) (by decide +kernel)))
    (ok_leaf (ok_zreturn (show decode cL_law 378 = .ok (.ireturn, 1) by decide +kernel) rfl))))
    (ok_node
    (ok_leaf (ok_aload_n (show decode cL_law 379 = .ok (.aload_n 1, 1) by decide +kernel) rfl))
    (ok_node
    (ok_leaf (ok_aload_n (show decode cL_law 380 = .ok (.aload_n 0, 1) by decide +kernel) rfl))
    (ok_leaf (ok_iload_n (show decode cL_law 381 = .ok (.iload_n 3, 1) by decide +kernel) rfl)))))
    (ok_node
    (ok_node
    (ok_leaf (ok_iconst (show decode cL_law 382 = .ok (.iconst 1, 1) by decide +kernel) (by decide +kernel)))
    (ok_node
    (ok_leaf (ok_iadd (show decode cL_law 383 = .ok (.iadd, 1) by decide +kernel)))
    (ok_leaf (ok_sld (show decode cL_law 384 = .ok (.iaload, 1) by decide +kernel)))))
    (ok_node
    (ok_leaf (ok_aload_n (show decode cL_law 385 = .ok (.aload_n 0, 1) by decide +kernel) rfl))
    (ok_node
    (ok_leaf (ok_iload_n (show decode cL_law 386 = .ok (.iload_n 3, 1) by decide +kernel) rfl))
    (ok_leaf (ok_iconst (show decode cL_law 387 = .ok (.iconst 2, 1) by decide +kernel) (by decide +kernel)))))))))
    (ok_node
    (ok_node
    (ok_node
    (ok_node
    (ok_node
    (ok_leaf (ok_iadd (show decode cL_law 388 = .ok (.iadd, 1) by decide +kernel)))
    (ok_leaf (ok_sld (show decode cL_law 389 = .ok (.iaload, 1) by decide +kernel))))
    (ok_node
    (ok_leaf (ok_aload_n (show decode cL_law 390 = .ok (.aload_n 0, 1) by decide +kernel) rfl))
    (ok_node
    (ok_leaf (ok_iload_n (show decode cL_law 391 = .ok (.iload_n 3, 1) by decide +kernel) rfl))
    (ok_leaf (ok_iconst (show decode cL_law 392 = .ok (.iconst 3, 1) by decide +kernel) (by decide +kernel))))))
    (ok_node
    (ok_node
    (ok_leaf (ok_iadd (show decode cL_law 393 = .ok (.iadd, 1) by decide +kernel)))
    (ok_node
    (ok_leaf (ok_sld (show decode cL_law 394 = .ok (.iaload, 1) by decide +kernel)))
    (ok_leaf (ok_callV (C := RX10) (T := TX10) (N := 12) (Mc := M_X10_body) (show decode cL_law 395 = .ok (.invokevirtual 61, 3) by decide +kernel) rfl (by decide) (by decide +kernel) rfl rfl wd_886 wd_887 wd_888 wd_65 wd_889 ⟨by decide +kernel, by decide +kernel, by decide +kernel⟩ (by decide)))))
    (ok_node
    (ok_leaf (ok_aload_n (show decode cL_law 398 = .ok (.aload_n 2, 1) by decide +kernel) rfl))
    (ok_node
    (ok_leaf (ok_aload_n (show decode cL_law 399 = .ok (.aload_n 0, 1) by decide +kernel) rfl))
    (ok_leaf (ok_iload_n (show decode cL_law 400 = .ok (.iload_n 3, 1) by decide +kernel) rfl))))))
    (ok_node
    (ok_node
    (ok_node
    (ok_leaf (ok_iconst (show decode cL_law 401 = .ok (.iconst 1, 1) by decide +kernel) (by decide +kernel)))
    (ok_node
    (ok_leaf (ok_iadd (show decode cL_law 402 = .ok (.iadd, 1) by decide +kernel)))
    (ok_leaf (ok_sld (show decode cL_law 403 = .ok (.iaload, 1) by decide +kernel)))))
    (ok_node
    (ok_leaf (ok_aload_n (show decode cL_law 404 = .ok (.aload_n 0, 1) by decide +kernel) rfl))
    (ok_node
    (ok_leaf (ok_iload_n (show decode cL_law 405 = .ok (.iload_n 3, 1) by decide +kernel) rfl))
    (ok_leaf (ok_iconst (show decode cL_law 406 = .ok (.iconst 2, 1) by decide +kernel) (by decide +kernel))))))
    (ok_node
    (ok_node
    (ok_leaf (ok_iadd (show decode cL_law 407 = .ok (.iadd, 1) by decide +kernel)))
    (ok_node
    (ok_leaf (ok_sld (show decode cL_law 408 = .ok (.iaload, 1) by decide +kernel)))
    (ok_leaf (ok_aload_n (show decode cL_law 409 = .ok (.aload_n 0, 1) by decide +kernel) rfl))))
    (ok_node
    (ok_leaf (ok_iload_n (show decode cL_law 410 = .ok (.iload_n 3, 1) by decide +kernel) rfl))
    (ok_node
    (ok_leaf (ok_iconst (show decode cL_law 411 = .ok (.iconst 3, 1) by decide +kernel) (by decide +kernel)))
    (ok_leaf (ok_iadd (show decode cL_law 412 = .ok (.iadd, 1) by decide +kernel))))))))
    (ok_node
    (ok_node
    (ok_node
    (ok_node
    (ok_leaf (ok_sld (show decode cL_law 413 = .ok (.iaload, 1) by decide +kernel)))
    (ok_leaf (ok_callV (C := RX11) (T := TX11) (N := 31) (Mc := M_X11_body) (show decode cL_law 414 = .ok (.invokevirtual 64, 3) by decide +kernel) rfl (by decide) (by decide +kernel) rfl rfl wd_890 wd_891 wd_892 wd_558 wd_893 ⟨by decide +kernel, by decide +kernel, by decide +kernel⟩ (by decide))))
    (ok_node
    (ok_leaf (ok_icmp_eq (show decode cL_law 417 = .ok (.if_icmp .eq 141, 3) by decide +kernel) (by decide +kernel)))
    (ok_node
    (ok_leaf (ok_iconst (show decode cL_law 420 = .ok (.iconst 0, 1) by decide +kernel) (by decide +kernel)))
    (ok_leaf (ok_zreturn (show decode cL_law 421 = .ok (.ireturn, 1) by decide +kernel) rfl)))))
    (ok_node
    (ok_node
    (ok_leaf (ok_aload_n (show decode cL_law 422 = .ok (.aload_n 1, 1) by decide +kernel) rfl))
    (ok_node
    (ok_leaf (ok_aload_n (show decode cL_law 423 = .ok (.aload_n 0, 1) by decide +kernel) rfl))
    (ok_leaf (ok_iload_n (show decode cL_law 424 = .ok (.iload_n 3, 1) by decide +kernel) rfl))))
    (ok_node
    (ok_leaf (ok_iconst (show decode cL_law 425 = .ok (.iconst 1, 1) by decide +kernel) (by decide +kernel)))
    (ok_node
    (ok_leaf (ok_iadd (show decode cL_law 426 = .ok (.iadd, 1) by decide +kernel)))
    (ok_leaf (ok_sld (show decode cL_law 427 = .ok (.iaload, 1) by decide +kernel)))))))
    (ok_node
    (ok_node
    (ok_node
    (ok_leaf (ok_aload_n (show decode cL_law 428 = .ok (.aload_n 0, 1) by decide +kernel) rfl))
    (ok_node
    (ok_leaf (ok_iload_n (show decode cL_law 429 = .ok (.iload_n 3, 1) by decide +kernel) rfl))
    (ok_leaf (ok_iconst (show decode cL_law 430 = .ok (.iconst 2, 1) by decide +kernel) (by decide +kernel)))))
    (ok_node
    (ok_leaf (ok_iadd (show decode cL_law 431 = .ok (.iadd, 1) by decide +kernel)))
    (ok_node
    (ok_leaf (ok_sld (show decode cL_law 432 = .ok (.iaload, 1) by decide +kernel)))
    (ok_leaf (ok_aload_n (show decode cL_law 433 = .ok (.aload_n 0, 1) by decide +kernel) rfl)))))
    (ok_node
    (ok_node
    (ok_leaf (ok_iload_n (show decode cL_law 434 = .ok (.iload_n 3, 1) by decide +kernel) rfl))
    (ok_node
    (ok_leaf (ok_iconst (show decode cL_law 435 = .ok (.iconst 3, 1) by decide +kernel) (by decide +kernel)))
    (ok_leaf (ok_iadd (show decode cL_law 436 = .ok (.iadd, 1) by decide +kernel)))))
    (ok_node
    (ok_leaf (ok_sld (show decode cL_law 437 = .ok (.iaload, 1) by decide +kernel)))
    (ok_node
    (ok_leaf (ok_aload_n (show decode cL_law 438 = .ok (.aload_n 0, 1) by decide +kernel) rfl))
    (ok_leaf (ok_iload_n (show decode cL_law 439 = .ok (.iload_n 3, 1) by decide +kernel) rfl)))))))))
    (ok_node
    (ok_node
    (ok_node
    (ok_node
    (ok_node
    (ok_node
    (ok_leaf (ok_iconst (show decode cL_law 440 = .ok (.iconst 4, 1) by decide +kernel) (by decide +kernel)))
    (ok_leaf (ok_iadd (show decode cL_law 441 = .ok (.iadd, 1) by decide +kernel))))
    (ok_node
    (ok_leaf (ok_sld (show decode cL_law 442 = .ok (.iaload, 1) by decide +kernel)))
    (ok_node
    (ok_leaf (ok_callV (C := RX10) (T := TX10) (N := 12) (Mc := M_X10_becomes) (show decode cL_law 443 = .ok (.invokevirtual 65, 3) by decide +kernel) rfl (by decide) (by decide +kernel) rfl rfl wd_894 wd_895 wd_896 wd_65 wd_897 ⟨by decide +kernel, by decide +kernel, by decide +kernel⟩ (by decide)))
    (ok_leaf (ok_aload_n (show decode cL_law 446 = .ok (.aload_n 2, 1) by decide +kernel) rfl)))))
    (ok_node
    (ok_node
    (ok_leaf (ok_aload_n (show decode cL_law 447 = .ok (.aload_n 0, 1) by decide +kernel) rfl))
    (ok_node
    (ok_leaf (ok_iload_n (show decode cL_law 448 = .ok (.iload_n 3, 1) by decide +kernel) rfl))
    (ok_leaf (ok_iconst (show decode cL_law 449 = .ok (.iconst 1, 1) by decide +kernel) (by decide +kernel)))))
    (ok_node
    (ok_leaf (ok_iadd (show decode cL_law 450 = .ok (.iadd, 1) by decide +kernel)))
    (ok_node
    (ok_leaf (ok_sld (show decode cL_law 451 = .ok (.iaload, 1) by decide +kernel)))
    (ok_leaf (ok_aload_n (show decode cL_law 452 = .ok (.aload_n 0, 1) by decide +kernel) rfl))))))
    (ok_node
    (ok_node
    (ok_node
    (ok_leaf (ok_iload_n (show decode cL_law 453 = .ok (.iload_n 3, 1) by decide +kernel) rfl))
    (ok_node
    (ok_leaf (ok_iconst (show decode cL_law 454 = .ok (.iconst 2, 1) by decide +kernel) (by decide +kernel)))
    (ok_leaf (ok_iadd (show decode cL_law 455 = .ok (.iadd, 1) by decide +kernel)))))
    (ok_node
    (ok_leaf (ok_sld (show decode cL_law 456 = .ok (.iaload, 1) by decide +kernel)))
    (ok_node
    (ok_leaf (ok_aload_n (show decode cL_law 457 = .ok (.aload_n 0, 1) by decide +kernel) rfl))
    (ok_leaf (ok_iload_n (show decode cL_law 458 = .ok (.iload_n 3, 1) by decide +kernel) rfl)))))
    (ok_node
    (ok_node
    (ok_leaf (ok_iconst (show decode cL_law 459 = .ok (.iconst 3, 1) by decide +kernel) (by decide +kernel)))
    (ok_node
    (ok_leaf (ok_iadd (show decode cL_law 460 = .ok (.iadd, 1) by decide +kernel)))
    (ok_leaf (ok_sld (show decode cL_law 461 = .ok (.iaload, 1) by decide +kernel)))))
    (ok_node
    (ok_leaf (ok_aload_n (show decode cL_law 462 = .ok (.aload_n 0, 1) by decide +kernel) rfl))
    (ok_node
    (ok_leaf (ok_iload_n (show decode cL_law 463 = .ok (.iload_n 3, 1) by decide +kernel) rfl))
    (ok_leaf (ok_iconst (show decode cL_law 464 = .ok (.iconst 4, 1) by decide +kernel) (by decide +kernel))))))))
    (ok_node
    (ok_node
    (ok_node
    (ok_node
    (ok_leaf (ok_iadd (show decode cL_law 465 = .ok (.iadd, 1) by decide +kernel)))
    (ok_leaf (ok_sld (show decode cL_law 466 = .ok (.iaload, 1) by decide +kernel))))
    (ok_node
    (ok_leaf (ok_callV (C := RX11) (T := TX11) (N := 31) (Mc := M_X11_becomes) (show decode cL_law 467 = .ok (.invokevirtual 69, 3) by decide +kernel) rfl (by decide) (by decide +kernel) rfl rfl wd_898 wd_899 wd_900 wd_558 wd_901 ⟨by decide +kernel, by decide +kernel, by decide +kernel⟩ (by decide)))
    (ok_node
    (ok_leaf (ok_icmp_eq (show decode cL_law 470 = .ok (.if_icmp .eq 88, 3) by decide +kernel) (by decide +kernel)))
    (ok_leaf (ok_iconst (show decode cL_law 473 = .ok (.iconst 0, 1) by decide +kernel) (by decide +kernel))))))
    (ok_node
    (ok_node
    (ok_leaf (ok_zreturn (show decode cL_law 474 = .ok (.ireturn, 1) by decide +kernel) rfl))
    (ok_node
    (ok_leaf (ok_aload_n (show decode cL_law 475 = .ok (.aload_n 1, 1) by decide +kernel) rfl))
    (ok_leaf (ok_aload_n (show decode cL_law 476 = .ok (.aload_n 0, 1) by decide +kernel) rfl))))
    (ok_node
    (ok_leaf (ok_iload_n (show decode cL_law 477 = .ok (.iload_n 3, 1) by decide +kernel) rfl))
    (ok_node
    (ok_leaf (ok_iconst (show decode cL_law 478 = .ok (.iconst 1, 1) by decide +kernel) (by decide +kernel)))
    (ok_leaf (ok_iadd (show decode cL_law 479 = .ok (.iadd, 1) by decide +kernel)))))))
    (ok_node
    (ok_node
    (ok_node
    (ok_leaf (ok_sld (show decode cL_law 480 = .ok (.iaload, 1) by decide +kernel)))
    (ok_node
    (ok_leaf (ok_aload_n (show decode cL_law 481 = .ok (.aload_n 0, 1) by decide +kernel) rfl))
    (ok_leaf (ok_iload_n (show decode cL_law 482 = .ok (.iload_n 3, 1) by decide +kernel) rfl))))
    (ok_node
    (ok_leaf (ok_iconst (show decode cL_law 483 = .ok (.iconst 2, 1) by decide +kernel) (by decide +kernel)))
    (ok_node
    (ok_leaf (ok_iadd (show decode cL_law 484 = .ok (.iadd, 1) by decide +kernel)))
    (ok_leaf (ok_sld (show decode cL_law 485 = .ok (.iaload, 1) by decide +kernel))))))
    (ok_node
    (ok_node
    (ok_leaf (ok_callV (C := RX10) (T := TX10) (N := 12) (Mc := M_X10_bodies) (show decode cL_law 486 = .ok (.invokevirtual 70, 3) by decide +kernel) rfl (by decide) (by decide +kernel) rfl rfl wd_902 wd_903 wd_904 wd_65 wd_905 ⟨by decide +kernel, by decide +kernel, by decide +kernel⟩ (by decide)))
    (ok_node
    (ok_leaf (ok_aload_n (show decode cL_law 489 = .ok (.aload_n 2, 1) by decide +kernel) rfl))
    (ok_leaf (ok_aload_n (show decode cL_law 490 = .ok (.aload_n 0, 1) by decide +kernel) rfl))))
    (ok_node
    (ok_leaf (ok_iload_n (show decode cL_law 491 = .ok (.iload_n 3, 1) by decide +kernel) rfl))
    (ok_node
    (ok_leaf (ok_iconst (show decode cL_law 492 = .ok (.iconst 1, 1) by decide +kernel) (by decide +kernel)))
    (ok_leaf (ok_iadd (show decode cL_law 493 = .ok (.iadd, 1) by decide +kernel)))))))))
    (ok_node
    (ok_node
    (ok_node
    (ok_node
    (ok_node
    (ok_leaf (ok_sld (show decode cL_law 494 = .ok (.iaload, 1) by decide +kernel)))
    (ok_leaf (ok_aload_n (show decode cL_law 495 = .ok (.aload_n 0, 1) by decide +kernel) rfl)))
    (ok_node
    (ok_leaf (ok_iload_n (show decode cL_law 496 = .ok (.iload_n 3, 1) by decide +kernel) rfl))
    (ok_node
    (ok_leaf (ok_iconst (show decode cL_law 497 = .ok (.iconst 2, 1) by decide +kernel) (by decide +kernel)))
    (ok_leaf (ok_iadd (show decode cL_law 498 = .ok (.iadd, 1) by decide +kernel))))))
    (ok_node
    (ok_node
    (ok_leaf (ok_sld (show decode cL_law 499 = .ok (.iaload, 1) by decide +kernel)))
    (ok_node
    (ok_leaf (ok_callV (C := RX11) (T := TX11) (N := 31) (Mc := M_X11_bodies) (show decode cL_law 500 = .ok (.invokevirtual 73, 3) by decide +kernel) rfl (by decide) (by decide +kernel) rfl rfl wd_906 wd_907 wd_908 wd_558 wd_909 ⟨by decide +kernel, by decide +kernel, by decide +kernel⟩ (by decide)))
    (ok_leaf (ok_icmp_eq (show decode cL_law 503 = .ok (.if_icmp .eq 55, 3) by decide +kernel) (by decide +kernel)))))
    (ok_node
    (ok_leaf (ok_iconst (show decode cL_law 506 = .ok (.iconst 0, 1) by decide +kernel) (by decide +kernel)))
    (ok_node
    (ok_leaf (ok_zreturn (show decode cL_law 507 = .ok (.ireturn, 1) by decide +kernel) rfl))
    (ok_leaf (ok_aload_n (show decode cL_law 508 = .ok (.aload_n 1, 1) by decide +kernel) rfl))))))
    (ok_node
    (ok_node
    (ok_node
    (ok_leaf (ok_callV (C := RX10) (T := TX10) (N := 12) (Mc := M_X10_back) (show decode cL_law 509 = .ok (.invokevirtual 74, 3) by decide +kernel) rfl (by decide) (by decide +kernel) rfl rfl wd_910 wd_911 wd_912 wd_65 wd_913 ⟨by decide +kernel, by decide +kernel, by decide +kernel⟩ (by decide)))
    (ok_node
    (ok_leaf (ok_aload_n (show decode cL_law 512 = .ok (.aload_n 2, 1) by decide +kernel) rfl))
    (ok_leaf (ok_callV (C := RX11) (T := TX11) (N := 31) (Mc := M_X11_back) (show decode cL_law 513 = .ok (.invokevirtual 77, 3) by decide +kernel) rfl (by decide) (by decide +kernel) rfl rfl wd_914 wd_915 wd_916 wd_558 wd_917 ⟨by decide +kernel, by decide +kernel, by decide +kernel⟩ (by decide)))))
    (ok_node
    (ok_leaf (ok_icmp_eq (show decode cL_law 516 = .ok (.if_icmp .eq 42, 3) by decide +kernel) (by decide +kernel)))
    (ok_node
    (ok_leaf (ok_iconst (show decode cL_law 519 = .ok (.iconst 0, 1) by decide +kernel) (by decide +kernel)))
    (ok_leaf (ok_zreturn (show decode cL_law 520 = .ok (.ireturn, 1) by decide +kernel) rfl)))))
    (ok_node
    (ok_node
    (ok_leaf (ok_aload_n (show decode cL_law 521 = .ok (.aload_n 1, 1) by decide +kernel) rfl))
    (ok_node
    (ok_leaf (ok_aload_n (show decode cL_law 522 = .ok (.aload_n 0, 1) by decide +kernel) rfl))
    (ok_leaf (ok_iload_n (show decode cL_law 523 = .ok (.iload_n 3, 1) by decide +kernel) rfl))))
    (ok_node
    (ok_leaf (ok_iconst (show decode cL_law 524 = .ok (.iconst 1, 1) by decide +kernel) (by decide +kernel)))
    (ok_node
    (ok_leaf (ok_iadd (show decode cL_law 525 = .ok (.iadd, 1) by decide +kernel)))
    (ok_leaf (ok_sld (show decode cL_law 526 = .ok (.iaload, 1) by decide +kernel))))))))
    (ok_node
    (ok_node
    (ok_node
    (ok_node
    (ok_leaf (ok_callV (C := RX10) (T := TX10) (N := 12) (Mc := M_X10_told) (show decode cL_law 527 = .ok (.invokevirtual 78, 3) by decide +kernel) rfl (by decide) (by decide +kernel) rfl rfl wd_918 wd_919 wd_920 wd_65 wd_921 ⟨by decide +kernel, by decide +kernel, by decide +kernel⟩ (by decide)))
    (ok_leaf (ok_aload_n (show decode cL_law 530 = .ok (.aload_n 2, 1) by decide +kernel) rfl)))
    (ok_node
    (ok_leaf (ok_aload_n (show decode cL_law 531 = .ok (.aload_n 0, 1) by decide +kernel) rfl))
    (ok_node
    (ok_leaf (ok_iload_n (show decode cL_law 532 = .ok (.iload_n 3, 1) by decide +kernel) rfl))
    (ok_leaf (ok_iconst (show decode cL_law 533 = .ok (.iconst 1, 1) by decide +kernel) (by decide +kernel))))))
    (ok_node
    (ok_node
    (ok_leaf (ok_iadd (show decode cL_law 534 = .ok (.iadd, 1) by decide +kernel)))
    (ok_node
    (ok_leaf (ok_sld (show decode cL_law 535 = .ok (.iaload, 1) by decide +kernel)))
    (ok_leaf (ok_callV (C := RX11) (T := TX11) (N := 31) (Mc := M_X11_told) (show decode cL_law 536 = .ok (.invokevirtual 81, 3) by decide +kernel) rfl (by decide) (by decide +kernel) rfl rfl wd_922 wd_923 wd_924 wd_558 wd_925 ⟨by decide +kernel, by decide +kernel, by decide +kernel⟩ (by decide)))))
    (ok_node
    (ok_leaf (ok_icmp_eq (show decode cL_law 539 = .ok (.if_icmp .eq 19, 3) by decide +kernel) (by decide +kernel)))
    (ok_node
    (ok_leaf (ok_iconst (show decode cL_law 542 = .ok (.iconst 0, 1) by decide +kernel) (by decide +kernel)))
    (ok_leaf (ok_zreturn (show decode cL_law 543 = .ok (.ireturn, 1) by decide +kernel) rfl))))))
    (ok_node
    (ok_node
    (ok_node
    (ok_leaf (ok_aload_n (show decode cL_law 544 = .ok (.aload_n 1, 1) by decide +kernel) rfl))
    (ok_node
    (ok_leaf (ok_callV (C := RX10) (T := TX10) (N := 12) (Mc := M_X10_digest) (show decode cL_law 545 = .ok (.invokevirtual 82, 3) by decide +kernel) rfl (by decide) (by decide +kernel) rfl rfl wd_926 wd_927 wd_928 wd_65 wd_929 ⟨by decide +kernel, by decide +kernel, by decide +kernel⟩ (by decide)))
    (ok_leaf (ok_aload_n (show decode cL_law 548 = .ok (.aload_n 2, 1) by decide +kernel) rfl))))
    (ok_node
    (ok_leaf (ok_callV (C := RX11) (T := TX11) (N := 31) (Mc := M_X11_digest) (show decode cL_law 549 = .ok (.invokevirtual 86, 3) by decide +kernel) rfl (by decide) (by decide +kernel) rfl rfl wd_930 wd_931 wd_932 wd_558 wd_933 ⟨by decide +kernel, by decide +kernel, by decide +kernel⟩ (by decide)))
    (ok_node
    (ok_leaf (ok_lcmp (show decode cL_law 552 = .ok (.lcmp, 1) by decide +kernel)))
    (ok_leaf (ok_if_eq (show decode cL_law 553 = .ok (.ifCond .eq 5, 3) by decide +kernel) (by decide +kernel))))))
    (ok_node
    (ok_node
    (ok_leaf (ok_iconst (show decode cL_law 556 = .ok (.iconst 0, 1) by decide +kernel) (by decide +kernel)))
    (ok_node
    (ok_leaf (ok_zreturn (show decode cL_law 557 = .ok (.ireturn, 1) by decide +kernel) rfl))
    (ok_leaf (ok_iinc (show decode cL_law 558 = .ok (.iinc 3 5, 3) by decide +kernel) (by decide +kernel)))))
    (ok_node
    (ok_leaf (ok_goto (show decode cL_law 561 = .ok (.goto (-543), 3) by decide +kernel) (by decide +kernel)))
    (ok_node
    (ok_leaf (ok_iconst (show decode cL_law 564 = .ok (.iconst 1, 1) by decide +kernel) (by decide +kernel)))
    (ok_leaf (ok_zreturn (show decode cL_law 565 = .ok (.ireturn, 1) by decide +kernel) rfl))))))))))
