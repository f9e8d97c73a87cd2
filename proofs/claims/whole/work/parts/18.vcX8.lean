def vcX8_init_0 (E : Wd) (d : Nat) (mc ms : Nat) (a0 : Nat) (h : Hp) (Q : Hp → Prop) : Prop :=
  (1 ≤ mc ∧ 40 ≤ ms) ∧ ∀ h1, h1 = nA E h 0 40 → okP h1 a0 8 0 ∧ ∀ h3, h3 = pF h1 a0 0 (.ref (h.1)) → (2 ≤ mc ∧ 50 ≤ ms) ∧ ∀ h4, h4 = nA E h3 0 10 → okP h4 a0 8 4 ∧ ∀ h6, h6 = pF h4 a0 4 (.ref (h3.1)) → (3 ≤ mc ∧ 60 ≤ ms) ∧ ∀ h7, h7 = nA E h6 0 10 → okP h7 a0 8 5 ∧ ∀ h9, h9 = pF h7 a0 5 (.ref (h6.1)) → (4 ≤ mc ∧ 70 ≤ ms) ∧ ∀ h10, h10 = nA E h9 0 10 → okP h10 a0 8 6 ∧ ∀ h12, h12 = pF h10 a0 6 (.ref (h9.1)) → (11 ≤ mc ∧ 94 ≤ ms) ∧ ∀ h13, h13 = nM E h12 6 3 → okP h13 a0 8 8 ∧ ∀ h15, h15 = pF h13 a0 8 (.ref (h12.1)) → (12 ≤ mc ∧ 100 ≤ ms) ∧ ∀ h16, h16 = nA E h15 0 6 → okP h16 a0 8 9 ∧ ∀ h18, h18 = pF h16 a0 9 (.ref (h15.1)) → (19 ≤ mc ∧ 322 ≤ ms) ∧ ∀ h19, h19 = nM E h18 6 36 → okP h19 a0 8 10 ∧ ∀ h21, h21 = pF h19 a0 10 (.ref (h18.1)) → (26 ≤ mc ∧ 544 ≤ ms) ∧ ∀ h22, h22 = nM E h21 6 36 → okP h22 a0 8 11 ∧ ∀ h24, h24 = pF h22 a0 11 (.ref (h21.1)) → (33 ≤ mc ∧ 766 ≤ ms) ∧ ∀ h25, h25 = nM E h24 6 36 → okP h25 a0 8 12 ∧ ∀ h27, h27 = pF h25 a0 12 (.ref (h24.1)) → (40 ≤ mc ∧ 988 ≤ ms) ∧ ∀ h28, h28 = nM E h27 6 36 → okP h28 a0 8 13 ∧ ∀ h30, h30 = pF h28 a0 13 (.ref (h27.1)) → (41 ≤ mc ∧ 5382 ≤ ms) ∧ ∀ h31, h31 = nA E h30 1 4394 → okP h31 a0 8 14 ∧ ∀ h33, h33 = pF h31 a0 14 (.ref (h30.1)) → (42 ≤ mc ∧ 9776 ≤ ms) ∧ ∀ h34, h34 = nA E h33 1 4394 → okP h34 a0 8 15 ∧ ∀ h36, h36 = pF h34 a0 15 (.ref (h33.1)) → (43 ≤ mc ∧ 14170 ≤ ms) ∧ ∀ h37, h37 = nA E h36 1 4394 → okP h37 a0 8 16 ∧ ∀ h39, h39 = pF h37 a0 16 (.ref (h36.1)) → (44 ≤ mc ∧ 18564 ≤ ms) ∧ ∀ h40, h40 = nA E h39 0 4394 → okP h40 a0 8 17 ∧ ∀ h42, h42 = pF h40 a0 17 (.ref (h39.1)) → (45 ≤ mc ∧ 22958 ≤ ms) ∧ ∀ h43, h43 = nA E h42 0 4394 → okP h43 a0 8 18 ∧ ∀ h45, h45 = pF h43 a0 18 (.ref (h42.1)) → (46 ≤ mc ∧ 27352 ≤ ms) ∧ ∀ h46, h46 = nA E h45 0 4394 → okP h46 a0 8 19 ∧ ∀ h48, h48 = pF h46 a0 19 (.ref (h45.1)) → (47 ≤ mc ∧ 27355 ≤ ms) ∧ ∀ h49, h49 = nA E h48 0 3 → okP h49 a0 8 21 ∧ ∀ h51, h51 = pF h49 a0 21 (.ref (h48.1)) → (48 ≤ mc ∧ 27358 ≤ ms) ∧ ∀ h52, h52 = nA E h51 0 3 → okP h52 a0 8 22 ∧ ∀ h54, h54 = pF h52 a0 22 (.ref (h51.1)) → okP h54 a0 8 23 ∧ ∀ h55, h55 = pF h54 a0 23 (.int ((-1))) → (49 ≤ mc ∧ 27399 ≤ ms) ∧ ∀ h56, h56 = nA E h55 0 41 → okP h56 a0 8 25 ∧ ∀ h58, h58 = pF h56 a0 25 (.ref (h55.1)) → (50 ≤ mc ∧ 27440 ≤ ms) ∧ ∀ h59, h59 = nA E h58 0 41 → okP h59 a0 8 26 ∧ ∀ h61, h61 = pF h59 a0 26 (.ref (h58.1)) → (51 ≤ mc ∧ 27481 ≤ ms) ∧ ∀ h62, h62 = nA E h61 1 41 → okP h62 a0 8 27 ∧ ∀ h64, h64 = pF h62 a0 27 (.ref (h61.1)) → (52 ≤ mc ∧ 27522 ≤ ms) ∧ ∀ h65, h65 = nA E h64 1 41 → okP h65 a0 8 28 ∧ ∀ h67, h67 = pF h65 a0 28 (.ref (h64.1)) → (53 ≤ mc ∧ 27583 ≤ ms) ∧ ∀ h68, h68 = nA E h67 0 61 → okP h68 a0 8 29 ∧ ∀ h70, h70 = pF h68 a0 29 (.ref (h67.1)) → Q h70
set_option maxRecDepth 100000 in
set_option maxHeartbeats 4000000 in
theorem zsX8_init_0 {E : Wd} {X : Mx} {d mc ms : Nat} {Q : Hp → Prop} (C : zz_C E X YX8_init (d + 1) mc ms (fun r h' => r = none ∧ Q h')) (a0 : Nat) (h : Hp) (v : vcX8_init_0 E d mc ms a0 h Q) : GG E X 1 0 0 0 [some (.ref a0)] [] h := by
  refine zg_aload_n (q := 1) C dX8_init_0 rfl rfl ?_
  refine zg_objInit (q := 4) C oiX8 rfl (Nat.le_add_left _ _) (Nat.le_of_ble_eq_true rfl) dX8_init_1 rfl ?_
  refine zg_aload_n (q := 5) C dX8_init_4 rfl rfl ?_
  refine zg_bipush (v := 40) (q := 7) C dX8_init_5 (by decide) rfl ?_
  refine zg_newI (m := 40) (q := 9) C ar0 dX8_init_7 rfl (by decide) (by decide) (by decide) v.1 ?_
  have c2 := v.1
  have v := v.2 _ rfl
  refine zg_putF (j := 0) (q := 12) C bX8 (by decide) lkX8_9 dX8_init_9 rfl rfl rfl rfl v.1 rfl rfl ?_
  have v := v.2 _ rfl
  refine zg_aload_n (q := 13) C dX8_init_12 rfl rfl ?_
  refine zg_bipush (v := 10) (q := 15) C dX8_init_13 (by decide) rfl ?_
  refine zg_newI (m := 10) (q := 17) C ar0 dX8_init_15 rfl (by decide) (by decide) (by decide) v.1 ?_
  have c5 := v.1
  have v := v.2 _ rfl
  refine zg_putF (j := 4) (q := 20) C bX8 (by decide) lkX8_13 dX8_init_17 rfl rfl rfl rfl v.1 rfl rfl ?_
  have v := v.2 _ rfl
  refine zg_aload_n (q := 21) C dX8_init_20 rfl rfl ?_
  refine zg_bipush (v := 10) (q := 23) C dX8_init_21 (by decide) rfl ?_
  refine zg_newI (m := 10) (q := 25) C ar0 dX8_init_23 rfl (by decide) (by decide) (by decide) v.1 ?_
  have c8 := v.1
  have v := v.2 _ rfl
  refine zg_putF (j := 5) (q := 28) C bX8 (by decide) lkX8_16 dX8_init_25 rfl rfl rfl rfl v.1 rfl rfl ?_
  have v := v.2 _ rfl
  refine zg_aload_n (q := 29) C dX8_init_28 rfl rfl ?_
  refine zg_bipush (v := 10) (q := 31) C dX8_init_29 (by decide) rfl ?_
  refine zg_newI (m := 10) (q := 33) C ar0 dX8_init_31 rfl (by decide) (by decide) (by decide) v.1 ?_
  have c11 := v.1
  have v := v.2 _ rfl
  refine zg_putF (j := 6) (q := 36) C bX8 (by decide) lkX8_19 dX8_init_33 rfl rfl rfl rfl v.1 rfl rfl ?_
  have v := v.2 _ rfl
  refine zg_aload_n (q := 37) C dX8_init_36 rfl rfl ?_
  refine zg_bipush (v := 6) (q := 39) C dX8_init_37 (by decide) rfl ?_
  refine zg_iconst (v := 3) (q := 40) C dX8_init_39 (by decide) rfl ?_
  refine zg_mna (N := 6) (M := 3) (q := 44) C ar0 ar3 dX8_init_40 rfl (by decide) (by decide) (by decide) (by decide) (by decide) (by decide) v.1 ?_
  have c14 := v.1
  have v := v.2 _ rfl
  refine zg_putF (j := 8) (q := 47) C bX8 (by decide) lkX8_24 dX8_init_44 rfl rfl rfl rfl v.1 rfl rfl ?_
  have v := v.2 _ rfl
  refine zg_aload_n (q := 48) C dX8_init_47 rfl rfl ?_
  refine zg_bipush (v := 6) (q := 50) C dX8_init_48 (by decide) rfl ?_
  refine zg_newI (m := 6) (q := 52) C ar0 dX8_init_50 rfl (by decide) (by decide) (by decide) v.1 ?_
  have c17 := v.1
  have v := v.2 _ rfl
  refine zg_putF (j := 9) (q := 55) C bX8 (by decide) lkX8_27 dX8_init_52 rfl rfl rfl rfl v.1 rfl rfl ?_
  have v := v.2 _ rfl
  refine zg_aload_n (q := 56) C dX8_init_55 rfl rfl ?_
  refine zg_bipush (v := 6) (q := 58) C dX8_init_56 (by decide) rfl ?_
  refine zg_bipush (v := 36) (q := 60) C dX8_init_58 (by decide) rfl ?_
  refine zg_mna (N := 6) (M := 36) (q := 64) C ar0 ar3 dX8_init_60 rfl (by decide) (by decide) (by decide) (by decide) (by decide) (by decide) v.1 ?_
  have c20 := v.1
  have v := v.2 _ rfl
  refine zg_putF (j := 10) (q := 67) C bX8 (by decide) lkX8_30 dX8_init_64 rfl rfl rfl rfl v.1 rfl rfl ?_
  have v := v.2 _ rfl
  refine zg_aload_n (q := 68) C dX8_init_67 rfl rfl ?_
  refine zg_bipush (v := 6) (q := 70) C dX8_init_68 (by decide) rfl ?_
  refine zg_bipush (v := 36) (q := 72) C dX8_init_70 (by decide) rfl ?_
  refine zg_mna (N := 6) (M := 36) (q := 76) C ar0 ar3 dX8_init_72 rfl (by decide) (by decide) (by decide) (by decide) (by decide) (by decide) v.1 ?_
  have c23 := v.1
  have v := v.2 _ rfl
  refine zg_putF (j := 11) (q := 79) C bX8 (by decide) lkX8_33 dX8_init_76 rfl rfl rfl rfl v.1 rfl rfl ?_
  have v := v.2 _ rfl
  refine zg_aload_n (q := 80) C dX8_init_79 rfl rfl ?_
  refine zg_bipush (v := 6) (q := 82) C dX8_init_80 (by decide) rfl ?_
  refine zg_bipush (v := 36) (q := 84) C dX8_init_82 (by decide) rfl ?_
  refine zg_mna (N := 6) (M := 36) (q := 88) C ar0 ar3 dX8_init_84 rfl (by decide) (by decide) (by decide) (by decide) (by decide) (by decide) v.1 ?_
  have c26 := v.1
  have v := v.2 _ rfl
  refine zg_putF (j := 12) (q := 91) C bX8 (by decide) lkX8_36 dX8_init_88 rfl rfl rfl rfl v.1 rfl rfl ?_
  have v := v.2 _ rfl
  refine zg_aload_n (q := 92) C dX8_init_91 rfl rfl ?_
  refine zg_bipush (v := 6) (q := 94) C dX8_init_92 (by decide) rfl ?_
  refine zg_bipush (v := 36) (q := 96) C dX8_init_94 (by decide) rfl ?_
  refine zg_mna (N := 6) (M := 36) (q := 100) C ar0 ar3 dX8_init_96 rfl (by decide) (by decide) (by decide) (by decide) (by decide) (by decide) v.1 ?_
  have c29 := v.1
  have v := v.2 _ rfl
  refine zg_putF (j := 13) (q := 103) C bX8 (by decide) lkX8_39 dX8_init_100 rfl rfl rfl rfl v.1 rfl rfl ?_
  have v := v.2 _ rfl
  refine zg_aload_n (q := 104) C dX8_init_103 rfl rfl ?_
  refine zg_sipush (v := 4394) (q := 107) C dX8_init_104 (by decide) rfl ?_
  refine zg_newZ (m := 4394) (q := 109) C ar1 dX8_init_107 rfl (by decide) (by decide) (by decide) v.1 ?_
  have c32 := v.1
  have v := v.2 _ rfl
  refine zg_putF (j := 14) (q := 112) C bX8 (by decide) lkX8_42 dX8_init_109 rfl rfl rfl rfl v.1 rfl rfl ?_
  have v := v.2 _ rfl
  refine zg_aload_n (q := 113) C dX8_init_112 rfl rfl ?_
  refine zg_sipush (v := 4394) (q := 116) C dX8_init_113 (by decide) rfl ?_
  refine zg_newZ (m := 4394) (q := 118) C ar1 dX8_init_116 rfl (by decide) (by decide) (by decide) v.1 ?_
  have c35 := v.1
  have v := v.2 _ rfl
  refine zg_putF (j := 15) (q := 121) C bX8 (by decide) lkX8_46 dX8_init_118 rfl rfl rfl rfl v.1 rfl rfl ?_
  have v := v.2 _ rfl
  refine zg_aload_n (q := 122) C dX8_init_121 rfl rfl ?_
  refine zg_sipush (v := 4394) (q := 125) C dX8_init_122 (by decide) rfl ?_
  refine zg_newZ (m := 4394) (q := 127) C ar1 dX8_init_125 rfl (by decide) (by decide) (by decide) v.1 ?_
  have c38 := v.1
  have v := v.2 _ rfl
  refine zg_putF (j := 16) (q := 130) C bX8 (by decide) lkX8_49 dX8_init_127 rfl rfl rfl rfl v.1 rfl rfl ?_
  have v := v.2 _ rfl
  refine zg_aload_n (q := 131) C dX8_init_130 rfl rfl ?_
  refine zg_sipush (v := 4394) (q := 134) C dX8_init_131 (by decide) rfl ?_
  refine zg_newI (m := 4394) (q := 136) C ar0 dX8_init_134 rfl (by decide) (by decide) (by decide) v.1 ?_
  have c41 := v.1
  have v := v.2 _ rfl
  refine zg_putF (j := 17) (q := 139) C bX8 (by decide) lkX8_52 dX8_init_136 rfl rfl rfl rfl v.1 rfl rfl ?_
  have v := v.2 _ rfl
  refine zg_aload_n (q := 140) C dX8_init_139 rfl rfl ?_
  refine zg_sipush (v := 4394) (q := 143) C dX8_init_140 (by decide) rfl ?_
  refine zg_newI (m := 4394) (q := 145) C ar0 dX8_init_143 rfl (by decide) (by decide) (by decide) v.1 ?_
  have c44 := v.1
  have v := v.2 _ rfl
  refine zg_putF (j := 18) (q := 148) C bX8 (by decide) lkX8_55 dX8_init_145 rfl rfl rfl rfl v.1 rfl rfl ?_
  have v := v.2 _ rfl
  refine zg_aload_n (q := 149) C dX8_init_148 rfl rfl ?_
  refine zg_sipush (v := 4394) (q := 152) C dX8_init_149 (by decide) rfl ?_
  refine zg_newI (m := 4394) (q := 154) C ar0 dX8_init_152 rfl (by decide) (by decide) (by decide) v.1 ?_
  have c47 := v.1
  have v := v.2 _ rfl
  refine zg_putF (j := 19) (q := 157) C bX8 (by decide) lkX8_58 dX8_init_154 rfl rfl rfl rfl v.1 rfl rfl ?_
  have v := v.2 _ rfl
  refine zg_aload_n (q := 158) C dX8_init_157 rfl rfl ?_
  refine zg_iconst (v := 3) (q := 159) C dX8_init_158 (by decide) rfl ?_
  refine zg_newI (m := 3) (q := 161) C ar0 dX8_init_159 rfl (by decide) (by decide) (by decide) v.1 ?_
  have c50 := v.1
  have v := v.2 _ rfl
  refine zg_putF (j := 21) (q := 164) C bX8 (by decide) lkX8_61 dX8_init_161 rfl rfl rfl rfl v.1 rfl rfl ?_
  have v := v.2 _ rfl
  refine zg_aload_n (q := 165) C dX8_init_164 rfl rfl ?_
  refine zg_iconst (v := 3) (q := 166) C dX8_init_165 (by decide) rfl ?_
  refine zg_newI (m := 3) (q := 168) C ar0 dX8_init_166 rfl (by decide) (by decide) (by decide) v.1 ?_
  have c53 := v.1
  have v := v.2 _ rfl
  refine zg_putF (j := 22) (q := 171) C bX8 (by decide) lkX8_64 dX8_init_168 rfl rfl rfl rfl v.1 rfl rfl ?_
  have v := v.2 _ rfl
  refine zg_aload_n (q := 172) C dX8_init_171 rfl rfl ?_
  refine zg_iconst (v := (-1)) (q := 173) C dX8_init_172 (by decide) rfl ?_
  refine zg_put (j := 23) (q := 176) C bX8 (by decide) lkX8_67 dX8_init_173 rfl rfl v.1 rfl rfl ?_
  have v := v.2 _ rfl
  refine zg_aload_n (q := 177) C dX8_init_176 rfl rfl ?_
  refine zg_bipush (v := 41) (q := 179) C dX8_init_177 (by decide) rfl ?_
  refine zg_newI (m := 41) (q := 181) C ar0 dX8_init_179 rfl (by decide) (by decide) (by decide) v.1 ?_
  have c57 := v.1
  have v := v.2 _ rfl
  refine zg_putF (j := 25) (q := 184) C bX8 (by decide) lkX8_71 dX8_init_181 rfl rfl rfl rfl v.1 rfl rfl ?_
  have v := v.2 _ rfl
  refine zg_aload_n (q := 185) C dX8_init_184 rfl rfl ?_
  refine zg_bipush (v := 41) (q := 187) C dX8_init_185 (by decide) rfl ?_
  refine zg_newI (m := 41) (q := 189) C ar0 dX8_init_187 rfl (by decide) (by decide) (by decide) v.1 ?_
  have c60 := v.1
  have v := v.2 _ rfl
  refine zg_putF (j := 26) (q := 192) C bX8 (by decide) lkX8_74 dX8_init_189 rfl rfl rfl rfl v.1 rfl rfl ?_
  have v := v.2 _ rfl
  refine zg_aload_n (q := 193) C dX8_init_192 rfl rfl ?_
  refine zg_bipush (v := 41) (q := 195) C dX8_init_193 (by decide) rfl ?_
  refine zg_newZ (m := 41) (q := 197) C ar1 dX8_init_195 rfl (by decide) (by decide) (by decide) v.1 ?_
  have c63 := v.1
  have v := v.2 _ rfl
  refine zg_putF (j := 27) (q := 200) C bX8 (by decide) lkX8_77 dX8_init_197 rfl rfl rfl rfl v.1 rfl rfl ?_
  have v := v.2 _ rfl
  refine zg_aload_n (q := 201) C dX8_init_200 rfl rfl ?_
  refine zg_bipush (v := 41) (q := 203) C dX8_init_201 (by decide) rfl ?_
  refine zg_newZ (m := 41) (q := 205) C ar1 dX8_init_203 rfl (by decide) (by decide) (by decide) v.1 ?_
  have c66 := v.1
  have v := v.2 _ rfl
  refine zg_putF (j := 28) (q := 208) C bX8 (by decide) lkX8_80 dX8_init_205 rfl rfl rfl rfl v.1 rfl rfl ?_
  have v := v.2 _ rfl
  refine zg_aload_n (q := 209) C dX8_init_208 rfl rfl ?_
  refine zg_bipush (v := 61) (q := 211) C dX8_init_209 (by decide) rfl ?_
  refine zg_newI (m := 61) (q := 213) C ar0 dX8_init_211 rfl (by decide) (by decide) (by decide) v.1 ?_
  have c69 := v.1
  have v := v.2 _ rfl
  refine zg_putF (j := 29) (q := 216) C bX8 (by decide) lkX8_83 dX8_init_213 rfl rfl rfl rfl v.1 rfl rfl ?_
  have v := v.2 _ rfl
  exact zg_vret C rfl dX8_init_216 c69 ⟨rfl, v⟩
theorem rnX8_init {E : Wd} {d mc ms : Nat} {a0 : Nat} {h : Hp} {Q : Hp → Prop} (k : vcX8_init_0 E d mc ms a0 h Q) : OkW E YX8_init (d + 1) mc ms [.ref a0] h Q :=
  zz_body2 (r := 0) mX8_init (zc_a zc_n) (Nat.le_of_ble_eq_true rfl) (fun X C => zsX8_init_0 C a0 h k)
def vcX8_isBetween_0 (E : Wd) (d : Nat) (x0 : Int32) (x1 : Int32) (x2 : Int32) (h : Hp) (Q : Int32 → Hp → Prop) : Prop :=
  (x0 < x1 → mB 0 ∧ Q 0 h) ∧ (¬ x0 < x1 → (x2 < x0 → mB 0 ∧ Q 0 h) ∧ (¬ x2 < x0 → mB 1 ∧ Q 1 h))
set_option maxRecDepth 100000 in
set_option maxHeartbeats 4000000 in
theorem zsX8_isBetween_0 {E : Wd} {X : Mx} {d : Nat} {Q : Int32 → Hp → Prop} (C : zz_C E X YX8_isBetween d 0 0 (fun r h' => ∃ x : Int32, r = some (.int x) ∧ Q x h')) (x0 : Int32) (x1 : Int32) (x2 : Int32) (h : Hp) (v : vcX8_isBetween_0 E d x0 x1 x2 h Q) : GG E X 3 0 0 0 [some (.int x0), some (.int x1), some (.int x2)] [] h := by
  refine zg_iload_n (q := 1) C dX8_isBetween_0 rfl rfl ?_
  refine zg_iload_n (q := 2) C dX8_isBetween_1 rfl rfl ?_
  refine zg_icmp_lt (t := 14) (q := 5) C dX8_isBetween_2 (by decide) rfl (fun c => ?_) (fun c => ?_)
  · have v := v.1 c
    refine zg_iconst (v := 0) (q := 15) C dX8_isBetween_14 (by decide) rfl ?_
    exact zg_zret C rfl dX8_isBetween_15 ⟨Nat.le_refl _, Nat.le_refl _⟩ v.1 ⟨_, rfl, v.2⟩
  · have v := v.2 c
    refine zg_iload_n (q := 6) C dX8_isBetween_5 rfl rfl ?_
    refine zg_iload_n (q := 7) C dX8_isBetween_6 rfl rfl ?_
    refine zg_icmp_gt (t := 14) (q := 10) C dX8_isBetween_7 (by decide) rfl (fun c => ?_) (fun c => ?_)
    · have v := v.1 c
      refine zg_iconst (v := 0) (q := 15) C dX8_isBetween_14 (by decide) rfl ?_
      exact zg_zret C rfl dX8_isBetween_15 ⟨Nat.le_refl _, Nat.le_refl _⟩ v.1 ⟨_, rfl, v.2⟩
    · have v := v.2 c
      refine zg_iconst (v := 1) (q := 11) C dX8_isBetween_10 (by decide) rfl ?_
      refine zg_goto (t := 15) C dX8_isBetween_11 (by decide) ?_
      exact zg_zret C rfl dX8_isBetween_15 ⟨Nat.le_refl _, Nat.le_refl _⟩ v.1 ⟨_, rfl, v.2⟩
theorem rnX8_isBetween {E : Wd} {d : Nat} {x0 : Int32} {x1 : Int32} {x2 : Int32} {h : Hp} {Q : Int32 → Hp → Prop} (k : vcX8_isBetween_0 E d x0 x1 x2 h Q) : OkI E YX8_isBetween d [.int x0, .int x1, .int x2] h Q :=
  zz_body2 (r := 0) mX8_isBetween (zc_i (zc_i (zc_i zc_n))) (Nat.le_of_ble_eq_true rfl) (fun X C => zsX8_isBetween_0 C x0 x1 x2 h k)
def vcX8_has_0 (E : Wd) (d : Nat) (x0 : Int32) (x1 : Int32) (h : Hp) (Q : Int32 → Hp → Prop) : Prop :=
  (¬ ((x0 >>> (x1 &&& 31)) &&& (1 : Int32)) = (1 : Int32) → mB 0 ∧ Q 0 h) ∧ (((x0 >>> (x1 &&& 31)) &&& (1 : Int32)) = (1 : Int32) → mB 1 ∧ Q 1 h)
set_option maxRecDepth 100000 in
set_option maxHeartbeats 4000000 in
theorem zsX8_has_0 {E : Wd} {X : Mx} {d : Nat} {Q : Int32 → Hp → Prop} (C : zz_C E X YX8_has d 0 0 (fun r h' => ∃ x : Int32, r = some (.int x) ∧ Q x h')) (x0 : Int32) (x1 : Int32) (h : Hp) (v : vcX8_has_0 E d x0 x1 h Q) : GG E X 2 0 0 0 [some (.int x0), some (.int x1)] [] h := by
  refine zg_iload_n (q := 1) C dX8_has_0 rfl rfl ?_
  refine zg_iload_n (q := 2) C dX8_has_1 rfl rfl ?_
  refine zg_ishr (q := 3) C dX8_has_2 rfl ?_
  refine zg_iconst (v := 1) (q := 4) C dX8_has_3 (by decide) rfl ?_
  refine zg_iand (q := 5) C dX8_has_4 rfl ?_
  refine zg_iconst (v := 1) (q := 6) C dX8_has_5 (by decide) rfl ?_
  refine zg_icmp_ne (t := 13) (q := 9) C dX8_has_6 (by decide) rfl (fun c => ?_) (fun c => ?_)
  · have v := v.1 c
    refine zg_iconst (v := 0) (q := 14) C dX8_has_13 (by decide) rfl ?_
    exact zg_zret C rfl dX8_has_14 ⟨Nat.le_refl _, Nat.le_refl _⟩ v.1 ⟨_, rfl, v.2⟩
  · have v := v.2 c
    refine zg_iconst (v := 1) (q := 10) C dX8_has_9 (by decide) rfl ?_
    refine zg_goto (t := 14) C dX8_has_10 (by decide) ?_
    exact zg_zret C rfl dX8_has_14 ⟨Nat.le_refl _, Nat.le_refl _⟩ v.1 ⟨_, rfl, v.2⟩
theorem rnX8_has {E : Wd} {d : Nat} {x0 : Int32} {x1 : Int32} {h : Hp} {Q : Int32 → Hp → Prop} (k : vcX8_has_0 E d x0 x1 h Q) : OkI E YX8_has d [.int x0, .int x1] h Q :=
  zz_body2 (r := 0) mX8_has (zc_i (zc_i zc_n)) (Nat.le_of_ble_eq_true rfl) (fun X C => zsX8_has_0 C x0 x1 h k)
def vcX8_isByte_0 (E : Wd) (d : Nat) (x0 : Int32) (h : Hp) (Q : Int32 → Hp → Prop) : Prop :=
  OkI E YX8_isBetween d [.int x0, .int 0, .int 127] h (fun r2 h1 => mB r2 ∧ Q r2 h1)
set_option maxRecDepth 100000 in
set_option maxHeartbeats 4000000 in
theorem zsX8_isByte_0 {E : Wd} {X : Mx} {d : Nat} {Q : Int32 → Hp → Prop} (C : zz_C E X YX8_isByte (d + 1) 0 0 (fun r h' => ∃ x : Int32, r = some (.int x) ∧ Q x h')) (x0 : Int32) (h : Hp) (v : vcX8_isByte_0 E d x0 h Q) : GG E X 1 0 0 0 [some (.int x0)] [] h := by
  refine zg_iload_n (q := 1) C dX8_isByte_0 rfl rfl ?_
  refine zg_iconst (v := 0) (q := 2) C dX8_isByte_1 (by decide) rfl ?_
  refine zg_bipush (v := 127) (q := 4) C dX8_isByte_2 (by decide) rfl ?_
  refine zg_cS3I (q := 7) C mX8_isBetween tX8_isBetween lmX8_86 rfl (Nat.le_of_ble_eq_true rfl) ⟨Nat.le_refl _, Nat.le_refl _⟩ dX8_isByte_4 rfl v (fun r2 h1 v => ?_)
  exact zg_zret C rfl dX8_isByte_7 ⟨Nat.le_refl _, Nat.le_refl _⟩ v.1 ⟨_, rfl, v.2⟩
theorem rnX8_isByte {E : Wd} {d : Nat} {x0 : Int32} {h : Hp} {Q : Int32 → Hp → Prop} (k : vcX8_isByte_0 E d x0 h Q) : OkI E YX8_isByte (d + 1) [.int x0] h Q :=
  zz_body2 (r := 0) mX8_isByte (zc_i zc_n) (Nat.le_of_ble_eq_true rfl) (fun X C => zsX8_isByte_0 C x0 h k)
def vcX8_feed_0 (E : Wd) (d : Nat) (mc ms : Nat) (K95 : Nat → Int32 → Nat → Int32 → Hp → Prop) (a0 : Nat) (x1 : Int32) (x2 : Int32) (x3 : Int32) (x4 : Int32) (x5 : Int32) (x6 : Int32) (h : Hp) (Q : Int32 → Hp → Prop) : Prop :=
  OkI E YX8_isBetween d [.int x1, .int 1, .int 5] h (fun r2 h1 => (r2 = (0 : Int32) → Q ((-2)) h1) ∧ (¬ r2 = (0 : Int32) → OkI E YX8_isByte d [.int x2] h1 (fun r4 h3 => (r4 = (0 : Int32) → Q ((-2)) h3) ∧ (¬ r4 = (0 : Int32) → OkI E YX8_isByte d [.int x3] h3 (fun r6 h5 => (r6 = (0 : Int32) → Q ((-2)) h5) ∧ (¬ r6 = (0 : Int32) → OkI E YX8_isByte d [.int x4] h5 (fun r8 h7 => (r8 = (0 : Int32) → Q ((-2)) h7) ∧ (¬ r8 = (0 : Int32) → OkI E YX8_isByte d [.int x5] h7 (fun r10 h9 => (r10 = (0 : Int32) → Q ((-2)) h9) ∧ (¬ r10 = (0 : Int32) → OkI E YX8_isByte d [.int x6] h9 (fun r12 h11 => (¬ r12 = (0 : Int32) → okI h11 a0 8 1 ∧ (((fI h11 a0 1) + x1) ≤ (40 : Int32) → (1 ≤ mc ∧ 5 ≤ ms) ∧ ∀ h13, h13 = nA E h11 0 5 → okR E h13 (h11.1) 0 0 ∧ ∀ h15, h15 = sA h13 (h11.1) 0 x2 → okR E h15 (h11.1) 0 1 ∧ ∀ h16, h16 = sA h15 (h11.1) 1 x3 → okR E h16 (h11.1) 0 2 ∧ ∀ h17, h17 = sA h16 (h11.1) 2 x4 → okR E h17 (h11.1) 0 3 ∧ ∀ h18, h18 = sA h17 (h11.1) 3 x5 → okR E h18 (h11.1) 0 4 ∧ ∀ h19, h19 = sA h18 (h11.1) 4 x6 → K95 a0 x1 (h11.1) 0 h19) ∧ (¬ ((fI h11 a0 1) + x1) ≤ (40 : Int32) → Q ((-4)) h11)) ∧ (r12 = (0 : Int32) → Q ((-2)) h11))))))))))))
def vcX8_feed_95 (E : Wd) (d : Nat) (mc ms : Nat) (K95 : Nat → Int32 → Nat → Int32 → Hp → Prop) (a0 : Nat) (x1 : Int32) (a7 : Nat) (x8 : Int32) (h : Hp) (Q : Int32 → Hp → Prop) : Prop :=
  (1 ≤ mc ∧ 5 ≤ ms) ∧ (x1 ≤ x8 → okI h a0 8 1 ∧ Q (fI h a0 1) h) ∧ (¬ x1 ≤ x8 → okA h a0 8 0 ∧ okI h a0 8 1 ∧ okR E h a7 0 x8 ∧ okR E h (fA h a0 0) 0 (fI h a0 1) ∧ ∀ h1, h1 = sA h (fA h a0 0) (fI h a0 1) (gA h a7 x8) → okI h1 a0 8 1 ∧ okP h1 a0 8 1 ∧ ∀ h2, h2 = pF h1 a0 1 (.int ((fI h1 a0 1) + (1 : Int32))) → K95 a0 x1 a7 (x8 + 1) h2)
def zkX8_feed_95 (E : Wd) (X : Mx) : Nat → Int32 → Nat → Int32 → Hp → Prop := fun a0 x1 a7 x8 h => GG E X 9 1 5 95 [some (.ref a0), some (.int x1), none, none, none, none, none, some (.ref a7), some (.int x8)] [] h
set_option maxRecDepth 100000 in
set_option maxHeartbeats 4000000 in
theorem zsX8_feed_0 {E : Wd} {X : Mx} {d mc ms : Nat} {Q : Int32 → Hp → Prop} (C : zz_C E X YX8_feed (d + 1) mc ms (fun r h' => ∃ x : Int32, r = some (.int x) ∧ Q x h')) (a0 : Nat) (x1 : Int32) (x2 : Int32) (x3 : Int32) (x4 : Int32) (x5 : Int32) (x6 : Int32) (h : Hp) (v : vcX8_feed_0 E d mc ms (zkX8_feed_95 E X) a0 x1 x2 x3 x4 x5 x6 h Q) : GG E X 9 0 0 0 [some (.ref a0), some (.int x1), some (.int x2), some (.int x3), some (.int x4), some (.int x5), some (.int x6), none, none] [] h := by
  refine zg_iload_n (q := 1) C dX8_feed_0 rfl rfl ?_
  refine zg_iconst (v := 1) (q := 2) C dX8_feed_1 (by decide) rfl ?_
  refine zg_iconst (v := 5) (q := 3) C dX8_feed_2 (by decide) rfl ?_
  refine zg_cS3I (q := 6) C mX8_isBetween tX8_isBetween lmX8_86 rfl (Nat.le_of_ble_eq_true rfl) ⟨Nat.zero_le _, Nat.zero_le _⟩ dX8_feed_3 rfl v (fun r2 h1 v => ?_)
  refine zg_if_eq (t := 47) (q := 9) C dX8_feed_6 (by decide) rfl (fun c => ?_) (fun c => ?_)
  · have v := v.1 c
    refine zg_bipush (v := (-2)) (q := 49) C dX8_feed_47 (by decide) rfl ?_
    exact zg_iret C rfl dX8_feed_49 ⟨Nat.zero_le _, Nat.zero_le _⟩ ⟨_, rfl, v⟩
  · have v := v.2 c
    refine zg_iload_n (q := 10) C dX8_feed_9 rfl rfl ?_
    refine zg_cS1I (q := 13) C mX8_isByte tX8_isByte lmX8_90 rfl (Nat.le_of_ble_eq_true rfl) ⟨Nat.zero_le _, Nat.zero_le _⟩ dX8_feed_10 rfl v (fun r4 h3 v => ?_)
    refine zg_if_eq (t := 47) (q := 16) C dX8_feed_13 (by decide) rfl (fun c => ?_) (fun c => ?_)
    · have v := v.1 c
      refine zg_bipush (v := (-2)) (q := 49) C dX8_feed_47 (by decide) rfl ?_
      exact zg_iret C rfl dX8_feed_49 ⟨Nat.zero_le _, Nat.zero_le _⟩ ⟨_, rfl, v⟩
    · have v := v.2 c
      refine zg_iload_n (q := 17) C dX8_feed_16 rfl rfl ?_
      refine zg_cS1I (q := 20) C mX8_isByte tX8_isByte lmX8_90 rfl (Nat.le_of_ble_eq_true rfl) ⟨Nat.zero_le _, Nat.zero_le _⟩ dX8_feed_17 rfl v (fun r6 h5 v => ?_)
      refine zg_if_eq (t := 47) (q := 23) C dX8_feed_20 (by decide) rfl (fun c => ?_) (fun c => ?_)
      · have v := v.1 c
        refine zg_bipush (v := (-2)) (q := 49) C dX8_feed_47 (by decide) rfl ?_
        exact zg_iret C rfl dX8_feed_49 ⟨Nat.zero_le _, Nat.zero_le _⟩ ⟨_, rfl, v⟩
      · have v := v.2 c
        refine zg_iload (q := 25) C dX8_feed_23 rfl rfl ?_
        refine zg_cS1I (q := 28) C mX8_isByte tX8_isByte lmX8_90 rfl (Nat.le_of_ble_eq_true rfl) ⟨Nat.zero_le _, Nat.zero_le _⟩ dX8_feed_25 rfl v (fun r8 h7 v => ?_)
        refine zg_if_eq (t := 47) (q := 31) C dX8_feed_28 (by decide) rfl (fun c => ?_) (fun c => ?_)
        · have v := v.1 c
          refine zg_bipush (v := (-2)) (q := 49) C dX8_feed_47 (by decide) rfl ?_
          exact zg_iret C rfl dX8_feed_49 ⟨Nat.zero_le _, Nat.zero_le _⟩ ⟨_, rfl, v⟩
        · have v := v.2 c
          refine zg_iload (q := 33) C dX8_feed_31 rfl rfl ?_
          refine zg_cS1I (q := 36) C mX8_isByte tX8_isByte lmX8_90 rfl (Nat.le_of_ble_eq_true rfl) ⟨Nat.zero_le _, Nat.zero_le _⟩ dX8_feed_33 rfl v (fun r10 h9 v => ?_)
          refine zg_if_eq (t := 47) (q := 39) C dX8_feed_36 (by decide) rfl (fun c => ?_) (fun c => ?_)
          · have v := v.1 c
            refine zg_bipush (v := (-2)) (q := 49) C dX8_feed_47 (by decide) rfl ?_
            exact zg_iret C rfl dX8_feed_49 ⟨Nat.zero_le _, Nat.zero_le _⟩ ⟨_, rfl, v⟩
          · have v := v.2 c
            refine zg_iload (q := 41) C dX8_feed_39 rfl rfl ?_
            refine zg_cS1I (q := 44) C mX8_isByte tX8_isByte lmX8_90 rfl (Nat.le_of_ble_eq_true rfl) ⟨Nat.zero_le _, Nat.zero_le _⟩ dX8_feed_41 rfl v (fun r12 h11 v => ?_)
            refine zg_if_ne (t := 50) (q := 47) C dX8_feed_44 (by decide) rfl (fun c => ?_) (fun c => ?_)
            · have v := v.1 c
              refine zg_aload_n (q := 51) C dX8_feed_50 rfl rfl ?_
              refine zg_get (j := 1) (q := 54) C bX8 (by decide) lkX8_94 dX8_feed_51 rfl (okI.get v.1) ?_
              have v := v.2
              refine zg_iload_n (q := 55) C dX8_feed_54 rfl rfl ?_
              refine zg_iadd (q := 56) C dX8_feed_55 rfl ?_
              refine zg_bipush (v := 40) (q := 58) C dX8_feed_56 (by decide) rfl ?_
              refine zg_icmp_le (t := 64) (q := 61) C dX8_feed_58 (by decide) rfl (fun c => ?_) (fun c => ?_)
              · have v := v.1 c
                refine zg_iconst (v := 5) (q := 65) C dX8_feed_64 (by decide) rfl ?_
                refine zg_newI (m := 5) (q := 67) C ar0 dX8_feed_65 rfl (by decide) (by decide) (by decide) v.1 ?_
                have c14 := v.1
                have v := v.2 _ rfl
                refine zg_dup (q := 68) C dX8_feed_67 rfl rfl ?_
                refine zg_iconst (v := 0) (q := 69) C dX8_feed_68 (by decide) rfl ?_
                refine zg_iload_n (q := 70) C dX8_feed_69 rfl rfl ?_
                refine zg_iast (q := 71) C dX8_feed_70 rfl v.1 ?_
                have v := v.2 _ rfl
                refine zg_dup (q := 72) C dX8_feed_71 rfl rfl ?_
                refine zg_iconst (v := 1) (q := 73) C dX8_feed_72 (by decide) rfl ?_
                refine zg_iload_n (q := 74) C dX8_feed_73 rfl rfl ?_
                refine zg_iast (q := 75) C dX8_feed_74 rfl v.1 ?_
                have v := v.2 _ rfl
                refine zg_dup (q := 76) C dX8_feed_75 rfl rfl ?_
                refine zg_iconst (v := 2) (q := 77) C dX8_feed_76 (by decide) rfl ?_
                refine zg_iload (q := 79) C dX8_feed_77 rfl rfl ?_
                refine zg_iast (q := 80) C dX8_feed_79 rfl v.1 ?_
                have v := v.2 _ rfl
                refine zg_dup (q := 81) C dX8_feed_80 rfl rfl ?_
                refine zg_iconst (v := 3) (q := 82) C dX8_feed_81 (by decide) rfl ?_
                refine zg_iload (q := 84) C dX8_feed_82 rfl rfl ?_
                refine zg_iast (q := 85) C dX8_feed_84 rfl v.1 ?_
                have v := v.2 _ rfl
                refine zg_dup (q := 86) C dX8_feed_85 rfl rfl ?_
                refine zg_iconst (v := 4) (q := 87) C dX8_feed_86 (by decide) rfl ?_
                refine zg_iload (q := 89) C dX8_feed_87 rfl rfl ?_
                refine zg_iast (q := 90) C dX8_feed_89 rfl v.1 ?_
                have v := v.2 _ rfl
                refine zg_astore (q := 92) C dX8_feed_90 (by decide) rfl ?_
                refine zg_iconst (v := 0) (q := 93) C dX8_feed_92 (by decide) rfl ?_
                refine zg_istore (q := 95) C dX8_feed_93 (by decide) rfl ?_
                exact zg_mask [true, true, false, false, false, false, false, true, true] v
              · have v := v.2 c
                refine zg_bipush (v := (-4)) (q := 63) C dX8_feed_61 (by decide) rfl ?_
                exact zg_iret C rfl dX8_feed_63 ⟨Nat.zero_le _, Nat.zero_le _⟩ ⟨_, rfl, v⟩
            · have v := v.2 c
              refine zg_bipush (v := (-2)) (q := 49) C dX8_feed_47 (by decide) rfl ?_
              exact zg_iret C rfl dX8_feed_49 ⟨Nat.zero_le _, Nat.zero_le _⟩ ⟨_, rfl, v⟩
set_option maxRecDepth 100000 in
set_option maxHeartbeats 4000000 in
theorem zsX8_feed_95 {E : Wd} {X : Mx} {d mc ms : Nat} {Q : Int32 → Hp → Prop} (C : zz_C E X YX8_feed (d + 1) mc ms (fun r h' => ∃ x : Int32, r = some (.int x) ∧ Q x h')) (a0 : Nat) (x1 : Int32) (a7 : Nat) (x8 : Int32) (h : Hp) (v : vcX8_feed_95 E d mc ms (zkX8_feed_95 E X) a0 x1 a7 x8 h Q) : GG E X 9 1 5 95 [some (.ref a0), some (.int x1), none, none, none, none, none, some (.ref a7), some (.int x8)] [] h := by
  have hc := v.1
  have v := v.2
  refine zg_iload (q := 97) C dX8_feed_95 rfl rfl ?_
  refine zg_iload_n (q := 98) C dX8_feed_97 rfl rfl ?_
  refine zg_icmp_ge (t := 131) (q := 101) C dX8_feed_98 (by decide) rfl (fun c => ?_) (fun c => ?_)
  · have v := v.1 c
    refine zg_aload_n (q := 132) C dX8_feed_131 rfl rfl ?_
    refine zg_get (j := 1) (q := 135) C bX8 (by decide) lkX8_94 dX8_feed_132 rfl (okI.get v.1) ?_
    have v := v.2
    exact zg_iret C rfl dX8_feed_135 hc ⟨_, rfl, v⟩
  · have v := v.2 c
    refine zg_aload_n (q := 102) C dX8_feed_101 rfl rfl ?_
    refine zg_get (j := 0) (q := 105) C bX8 (by decide) lkX8_9 dX8_feed_102 rfl (okA.get v.1) ?_
    have v := v.2
    refine zg_aload_n (q := 106) C dX8_feed_105 rfl rfl ?_
    refine zg_get (j := 1) (q := 109) C bX8 (by decide) lkX8_94 dX8_feed_106 rfl (okI.get v.1) ?_
    have v := v.2
    refine zg_aload (q := 111) C dX8_feed_109 rfl rfl ?_
    refine zg_iload (q := 113) C dX8_feed_111 rfl rfl ?_
    refine zg_iald (q := 114) C dX8_feed_113 rfl v.1 ?_
    have v := v.2
    refine zg_iast (q := 115) C dX8_feed_114 rfl v.1 ?_
    have v := v.2 _ rfl
    refine zg_aload_n (q := 116) C dX8_feed_115 rfl rfl ?_
    refine zg_dup (q := 117) C dX8_feed_116 rfl rfl ?_
    refine zg_get (j := 1) (q := 120) C bX8 (by decide) lkX8_94 dX8_feed_117 rfl (okI.get v.1) ?_
    have v := v.2
    refine zg_iconst (v := 1) (q := 121) C dX8_feed_120 (by decide) rfl ?_
    refine zg_iadd (q := 122) C dX8_feed_121 rfl ?_
    refine zg_put (j := 1) (q := 125) C bX8 (by decide) lkX8_94 dX8_feed_122 rfl rfl v.1 rfl rfl ?_
    have v := v.2 _ rfl
    refine zg_iinc (v := 1) (q := 128) C dX8_feed_125 rfl (by decide) (by decide) rfl ?_
    refine zg_goto (t := 95) C dX8_feed_128 (by decide) ?_
    exact zg_mask [true, true, false, false, false, false, false, true, true] v
theorem rnX8_feed {E : Wd} {d mc ms : Nat} {a0 : Nat} {x1 : Int32} {x2 : Int32} {x3 : Int32} {x4 : Int32} {x5 : Int32} {x6 : Int32} {h : Hp} {Q : Int32 → Hp → Prop} (k : ∀ (K95 : Nat → Int32 → Nat → Int32 → Hp → Prop),(∀ (a0 : Nat) (x1 : Int32) (a7 : Nat) (x8 : Int32) h, vcX8_feed_95 E d mc ms K95 a0 x1 a7 x8 h Q → K95 a0 x1 a7 x8 h) → vcX8_feed_0 E d mc ms K95 a0 x1 x2 x3 x4 x5 x6 h Q) : OkJ E YX8_feed (d + 1) mc ms [.ref a0, .int x1, .int x2, .int x3, .int x4, .int x5, .int x6] h Q :=
  zz_body2 (r := 2) mX8_feed (zc_a (zc_i (zc_i (zc_i (zc_i (zc_i (zc_i zc_n))))))) (Nat.le_of_ble_eq_true rfl) (fun X C => zsX8_feed_0 C a0 x1 x2 x3 x4 x5 x6 h (k (zkX8_feed_95 E X) (fun a0 x1 a7 x8 h v => zsX8_feed_95 C a0 x1 a7 x8 h v)))
def vcX8_squares_0 (E : Wd) (d : Nat) (a0 : Nat) (h : Hp) (Q : Int32 → Hp → Prop) : Prop :=
  okA h a0 8 4 ∧ okR E h (fA h a0 4) 0 0 ∧ okA h a0 8 4 ∧ okR E h (fA h a0 4) 0 1 ∧ Q ((gA h (fA h a0 4) 0) * (gA h (fA h a0 4) 1)) h
set_option maxRecDepth 100000 in
set_option maxHeartbeats 4000000 in
theorem zsX8_squares_0 {E : Wd} {X : Mx} {d : Nat} {Q : Int32 → Hp → Prop} (C : zz_C E X YX8_squares d 0 0 (fun r h' => ∃ x : Int32, r = some (.int x) ∧ Q x h')) (a0 : Nat) (h : Hp) (v : vcX8_squares_0 E d a0 h Q) : GG E X 1 0 0 0 [some (.ref a0)] [] h := by
  refine zg_aload_n (q := 1) C dX8_squares_0 rfl rfl ?_
  refine zg_get (j := 4) (q := 4) C bX8 (by decide) lkX8_13 dX8_squares_1 rfl (okA.get v.1) ?_
  have v := v.2
  refine zg_iconst (v := 0) (q := 5) C dX8_squares_4 (by decide) rfl ?_
  refine zg_iald (q := 6) C dX8_squares_5 rfl v.1 ?_
  have v := v.2
  refine zg_aload_n (q := 7) C dX8_squares_6 rfl rfl ?_
  refine zg_get (j := 4) (q := 10) C bX8 (by decide) lkX8_13 dX8_squares_7 rfl (okA.get v.1) ?_
  have v := v.2
  refine zg_iconst (v := 1) (q := 11) C dX8_squares_10 (by decide) rfl ?_
  refine zg_iald (q := 12) C dX8_squares_11 rfl v.1 ?_
  have v := v.2
  refine zg_imul (q := 13) C dX8_squares_12 rfl ?_
  exact zg_iret C rfl dX8_squares_13 ⟨Nat.le_refl _, Nat.le_refl _⟩ ⟨_, rfl, v⟩
theorem rnX8_squares {E : Wd} {d : Nat} {a0 : Nat} {h : Hp} {Q : Int32 → Hp → Prop} (k : vcX8_squares_0 E d a0 h Q) : OkI E YX8_squares d [.ref a0] h Q :=
  zz_body2 (r := 0) mX8_squares (zc_a zc_n) (Nat.le_of_ble_eq_true rfl) (fun X C => zsX8_squares_0 C a0 h k)
def vcX8_sees_0 (E : Wd) (d : Nat) (a0 : Nat) (x1 : Int32) (x2 : Int32) (h : Hp) (Q : Int32 → Hp → Prop) : Prop :=
  okI h a0 8 3 ∧ (¬ (fI h a0 3) = (0 : Int32) → mB 0 ∧ Q 0 h) ∧ ((fI h a0 3) = (0 : Int32) → okI h a0 8 2 ∧ okI h a0 8 1 ∧ ((fI h a0 1) ≤ (fI h a0 2) → mB 0 ∧ Q 0 h) ∧ (¬ (fI h a0 1) ≤ (fI h a0 2) → okA h a0 8 0 ∧ okI h a0 8 2 ∧ okR E h (fA h a0 0) 0 (fI h a0 2) ∧ OkI E YX8_isBetween d [.int (gA h (fA h a0 0) (fI h a0 2)), .int x1, .int x2] h (fun r2 h1 => (r2 = (0 : Int32) → mB 0 ∧ Q 0 h1) ∧ (¬ r2 = (0 : Int32) → mB 1 ∧ Q 1 h1))))
set_option maxRecDepth 100000 in
set_option maxHeartbeats 4000000 in
theorem zsX8_sees_0 {E : Wd} {X : Mx} {d : Nat} {Q : Int32 → Hp → Prop} (C : zz_C E X YX8_sees (d + 1) 0 0 (fun r h' => ∃ x : Int32, r = some (.int x) ∧ Q x h')) (a0 : Nat) (x1 : Int32) (x2 : Int32) (h : Hp) (v : vcX8_sees_0 E d a0 x1 x2 h Q) : GG E X 3 0 0 0 [some (.ref a0), some (.int x1), some (.int x2)] [] h := by
  refine zg_aload_n (q := 1) C dX8_sees_0 rfl rfl ?_
  refine zg_get (j := 3) (q := 4) C bX8 (by decide) lkX8_97 dX8_sees_1 rfl (okI.get v.1) ?_
  have v := v.2
  refine zg_if_ne (t := 39) (q := 7) C dX8_sees_4 (by decide) rfl (fun c => ?_) (fun c => ?_)
  · have v := v.1 c
    refine zg_iconst (v := 0) (q := 40) C dX8_sees_39 (by decide) rfl ?_
    exact zg_zret C rfl dX8_sees_40 ⟨Nat.le_refl _, Nat.le_refl _⟩ v.1 ⟨_, rfl, v.2⟩
  · have v := v.2 c
    refine zg_aload_n (q := 8) C dX8_sees_7 rfl rfl ?_
    refine zg_get (j := 2) (q := 11) C bX8 (by decide) lkX8_101 dX8_sees_8 rfl (okI.get v.1) ?_
    have v := v.2
    refine zg_aload_n (q := 12) C dX8_sees_11 rfl rfl ?_
    refine zg_get (j := 1) (q := 15) C bX8 (by decide) lkX8_94 dX8_sees_12 rfl (okI.get v.1) ?_
    have v := v.2
    refine zg_icmp_ge (t := 39) (q := 18) C dX8_sees_15 (by decide) rfl (fun c => ?_) (fun c => ?_)
    · have v := v.1 c
      refine zg_iconst (v := 0) (q := 40) C dX8_sees_39 (by decide) rfl ?_
      exact zg_zret C rfl dX8_sees_40 ⟨Nat.le_refl _, Nat.le_refl _⟩ v.1 ⟨_, rfl, v.2⟩
    · have v := v.2 c
      refine zg_aload_n (q := 19) C dX8_sees_18 rfl rfl ?_
      refine zg_get (j := 0) (q := 22) C bX8 (by decide) lkX8_9 dX8_sees_19 rfl (okA.get v.1) ?_
      have v := v.2
      refine zg_aload_n (q := 23) C dX8_sees_22 rfl rfl ?_
      refine zg_get (j := 2) (q := 26) C bX8 (by decide) lkX8_101 dX8_sees_23 rfl (okI.get v.1) ?_
      have v := v.2
      refine zg_iald (q := 27) C dX8_sees_26 rfl v.1 ?_
      have v := v.2
      refine zg_iload_n (q := 28) C dX8_sees_27 rfl rfl ?_
      refine zg_iload_n (q := 29) C dX8_sees_28 rfl rfl ?_
      refine zg_cS3I (q := 32) C mX8_isBetween tX8_isBetween lmX8_86 rfl (Nat.le_of_ble_eq_true rfl) ⟨Nat.le_refl _, Nat.le_refl _⟩ dX8_sees_29 rfl v (fun r2 h1 v => ?_)
      refine zg_if_eq (t := 39) (q := 35) C dX8_sees_32 (by decide) rfl (fun c => ?_) (fun c => ?_)
      · have v := v.1 c
        refine zg_iconst (v := 0) (q := 40) C dX8_sees_39 (by decide) rfl ?_
        exact zg_zret C rfl dX8_sees_40 ⟨Nat.le_refl _, Nat.le_refl _⟩ v.1 ⟨_, rfl, v.2⟩
      · have v := v.2 c
        refine zg_iconst (v := 1) (q := 36) C dX8_sees_35 (by decide) rfl ?_
        refine zg_goto (t := 40) C dX8_sees_36 (by decide) ?_
        exact zg_zret C rfl dX8_sees_40 ⟨Nat.le_refl _, Nat.le_refl _⟩ v.1 ⟨_, rfl, v.2⟩
theorem rnX8_sees {E : Wd} {d : Nat} {a0 : Nat} {x1 : Int32} {x2 : Int32} {h : Hp} {Q : Int32 → Hp → Prop} (k : vcX8_sees_0 E d a0 x1 x2 h Q) : OkI E YX8_sees (d + 1) [.ref a0, .int x1, .int x2] h Q :=
  zz_body2 (r := 0) mX8_sees (zc_a (zc_i (zc_i zc_n))) (Nat.le_of_ble_eq_true rfl) (fun X C => zsX8_sees_0 C a0 x1 x2 h k)
def vcX8_passes_0 (E : Wd) (d : Nat) (a0 : Nat) (x1 : Int32) (h : Hp) (Q : Int32 → Hp → Prop) : Prop :=
  isO h a0 8 ∧ OkI E YX8_sees d [.ref a0, .int x1, .int x1] h (fun r2 h1 => okI h1 a0 8 2 ∧ (r2 = (0 : Int32) → okP h1 a0 8 2 ∧ ∀ h3, h3 = pF h1 a0 2 (.int ((fI h1 a0 2) + (0 : Int32))) → mB r2 ∧ Q r2 h3) ∧ (¬ r2 = (0 : Int32) → okP h1 a0 8 2 ∧ ∀ h4, h4 = pF h1 a0 2 (.int ((fI h1 a0 2) + (1 : Int32))) → mB r2 ∧ Q r2 h4))
set_option maxRecDepth 100000 in
set_option maxHeartbeats 4000000 in
theorem zsX8_passes_0 {E : Wd} {X : Mx} {d : Nat} {Q : Int32 → Hp → Prop} (C : zz_C E X YX8_passes (d + 1) 0 0 (fun r h' => ∃ x : Int32, r = some (.int x) ∧ Q x h')) (a0 : Nat) (x1 : Int32) (h : Hp) (v : vcX8_passes_0 E d a0 x1 h Q) : GG E X 3 0 0 0 [some (.ref a0), some (.int x1), none] [] h := by
  refine zg_aload_n (q := 1) C dX8_passes_0 rfl rfl ?_
  refine zg_iload_n (q := 2) C dX8_passes_1 rfl rfl ?_
  refine zg_iload_n (q := 3) C dX8_passes_2 rfl rfl ?_
  refine zg_cV2I (q := 6) C mX8_sees vX8_sees lmX8_104 rfl (bX8).1 v.1 (Nat.le_of_ble_eq_true rfl) ⟨Nat.le_refl _, Nat.le_refl _⟩ dX8_passes_3 rfl v.2 (fun r2 h1 v => ?_)
  refine zg_istore_n (q := 7) C dX8_passes_6 (by decide) rfl ?_
  refine zg_aload_n (q := 8) C dX8_passes_7 rfl rfl ?_
  refine zg_dup (q := 9) C dX8_passes_8 rfl rfl ?_
  refine zg_get (j := 2) (q := 12) C bX8 (by decide) lkX8_101 dX8_passes_9 rfl (okI.get v.1) ?_
  have v := v.2
  refine zg_iload_n (q := 13) C dX8_passes_12 rfl rfl ?_
  refine zg_if_eq (t := 20) (q := 16) C dX8_passes_13 (by decide) rfl (fun c => ?_) (fun c => ?_)
  · have v := v.1 c
    refine zg_iconst (v := 0) (q := 21) C dX8_passes_20 (by decide) rfl ?_
    refine zg_iadd (q := 22) C dX8_passes_21 rfl ?_
    refine zg_put (j := 2) (q := 25) C bX8 (by decide) lkX8_101 dX8_passes_22 rfl rfl v.1 rfl rfl ?_
    have v := v.2 _ rfl
    refine zg_iload_n (q := 26) C dX8_passes_25 rfl rfl ?_
    exact zg_zret C rfl dX8_passes_26 ⟨Nat.le_refl _, Nat.le_refl _⟩ v.1 ⟨_, rfl, v.2⟩
  · have v := v.2 c
    refine zg_iconst (v := 1) (q := 17) C dX8_passes_16 (by decide) rfl ?_
    refine zg_goto (t := 21) C dX8_passes_17 (by decide) ?_
    refine zg_iadd (q := 22) C dX8_passes_21 rfl ?_
    refine zg_put (j := 2) (q := 25) C bX8 (by decide) lkX8_101 dX8_passes_22 rfl rfl v.1 rfl rfl ?_
    have v := v.2 _ rfl
    refine zg_iload_n (q := 26) C dX8_passes_25 rfl rfl ?_
    exact zg_zret C rfl dX8_passes_26 ⟨Nat.le_refl _, Nat.le_refl _⟩ v.1 ⟨_, rfl, v.2⟩
theorem rnX8_passes {E : Wd} {d : Nat} {a0 : Nat} {x1 : Int32} {h : Hp} {Q : Int32 → Hp → Prop} (k : vcX8_passes_0 E d a0 x1 h Q) : OkI E YX8_passes (d + 1) [.ref a0, .int x1] h Q :=
  zz_body2 (r := 1) mX8_passes (zc_a (zc_i zc_n)) (Nat.le_of_ble_eq_true rfl) (fun X C => zsX8_passes_0 C a0 x1 h k)
def vcX8_passDigit_46 (E : Wd) (d : Nat) (a0 : Nat) (s0 : Int32) (h : Hp) (Q : Int32 → Hp → Prop) : Prop :=
  okI h a0 8 2 ∧ okI h a0 8 3 ∧ ((fI h a0 3) = (0 : Int32) → okP h a0 8 2 ∧ ∀ h1, h1 = pF h a0 2 (.int ((fI h a0 2) + (1 : Int32))) → Q s0 h1) ∧ (¬ (fI h a0 3) = (0 : Int32) → okP h a0 8 2 ∧ ∀ h2, h2 = pF h a0 2 (.int ((fI h a0 2) + (0 : Int32))) → Q s0 h2)
def vcX8_passDigit_19 (E : Wd) (d : Nat) (a0 : Nat) (s0 : Nat) (s1 : Int32) (s2 : Int32) (h : Hp) (Q : Int32 → Hp → Prop) : Prop :=
  okP h s0 8 3 ∧ mB (s1 ||| s2) ∧ ∀ h1, h1 = pF h s0 3 (.int (s1 ||| s2)) → okI h1 a0 8 3 ∧ ((fI h1 a0 3) = (0 : Int32) → okA h1 a0 8 0 ∧ okI h1 a0 8 2 ∧ okR E h1 (fA h1 a0 0) 0 (fI h1 a0 2) ∧ vcX8_passDigit_46 E d a0 ((gA h1 (fA h1 a0 0) (fI h1 a0 2)) - (48 : Int32)) h1 Q) ∧ (¬ (fI h1 a0 3) = (0 : Int32) → vcX8_passDigit_46 E d a0 0 h1 Q)
def vcX8_passDigit_0 (E : Wd) (d : Nat) (a0 : Nat) (x1 : Int32) (x2 : Int32) (h : Hp) (Q : Int32 → Hp → Prop) : Prop :=
  okI h a0 8 3 ∧ isO h a0 8 ∧ OkI E YX8_sees d [.ref a0, .int x1, .int x2] h (fun r2 h1 => (¬ r2 = (0 : Int32) → vcX8_passDigit_19 E d a0 a0 (fI h a0 3) 0 h1 Q) ∧ (r2 = (0 : Int32) → vcX8_passDigit_19 E d a0 a0 (fI h a0 3) 1 h1 Q))
set_option maxRecDepth 100000 in
set_option maxHeartbeats 4000000 in
theorem zsX8_passDigit_46 {E : Wd} {X : Mx} {d : Nat} {Q : Int32 → Hp → Prop} (C : zz_C E X YX8_passDigit (d + 1) 0 0 (fun r h' => ∃ x : Int32, r = some (.int x) ∧ Q x h')) (a0 : Nat) (s0 : Int32) (h : Hp) (v : vcX8_passDigit_46 E d a0 s0 h Q) : GG E X 4 0 0 46 [some (.ref a0), none, none, none] [.int s0] h := by
  refine zg_istore_n (q := 47) C dX8_passDigit_46 (by decide) rfl ?_
  refine zg_aload_n (q := 48) C dX8_passDigit_47 rfl rfl ?_
  refine zg_dup (q := 49) C dX8_passDigit_48 rfl rfl ?_
  refine zg_get (j := 2) (q := 52) C bX8 (by decide) lkX8_101 dX8_passDigit_49 rfl (okI.get v.1) ?_
  have v := v.2
  refine zg_aload_n (q := 53) C dX8_passDigit_52 rfl rfl ?_
  refine zg_get (j := 3) (q := 56) C bX8 (by decide) lkX8_97 dX8_passDigit_53 rfl (okI.get v.1) ?_
  have v := v.2
  refine zg_if_eq (t := 63) (q := 59) C dX8_passDigit_56 (by decide) rfl (fun c => ?_) (fun c => ?_)
  · have v := v.1 c
    refine zg_iconst (v := 1) (q := 64) C dX8_passDigit_63 (by decide) rfl ?_
    refine zg_iadd (q := 65) C dX8_passDigit_64 rfl ?_
    refine zg_put (j := 2) (q := 68) C bX8 (by decide) lkX8_101 dX8_passDigit_65 rfl rfl v.1 rfl rfl ?_
    have v := v.2 _ rfl
    refine zg_iload_n (q := 69) C dX8_passDigit_68 rfl rfl ?_
    exact zg_iret C rfl dX8_passDigit_69 ⟨Nat.le_refl _, Nat.le_refl _⟩ ⟨_, rfl, v⟩
  · have v := v.2 c
    refine zg_iconst (v := 0) (q := 60) C dX8_passDigit_59 (by decide) rfl ?_
    refine zg_goto (t := 64) C dX8_passDigit_60 (by decide) ?_
    refine zg_iadd (q := 65) C dX8_passDigit_64 rfl ?_
    refine zg_put (j := 2) (q := 68) C bX8 (by decide) lkX8_101 dX8_passDigit_65 rfl rfl v.1 rfl rfl ?_
    have v := v.2 _ rfl
    refine zg_iload_n (q := 69) C dX8_passDigit_68 rfl rfl ?_
    exact zg_iret C rfl dX8_passDigit_69 ⟨Nat.le_refl _, Nat.le_refl _⟩ ⟨_, rfl, v⟩
set_option maxRecDepth 100000 in
set_option maxHeartbeats 4000000 in
theorem zsX8_passDigit_19 {E : Wd} {X : Mx} {d : Nat} {Q : Int32 → Hp → Prop} (C : zz_C E X YX8_passDigit (d + 1) 0 0 (fun r h' => ∃ x : Int32, r = some (.int x) ∧ Q x h')) (a0 : Nat) (s0 : Nat) (s1 : Int32) (s2 : Int32) (h : Hp) (v : vcX8_passDigit_19 E d a0 s0 s1 s2 h Q) : GG E X 4 0 0 19 [some (.ref a0), none, none, none] [.int s2, .int s1, .ref s0] h := by
  refine zg_ior (q := 20) C dX8_passDigit_19 rfl ?_
  refine zg_put (j := 3) (q := 23) C bX8 (by decide) lkX8_97 dX8_passDigit_20 rfl rfl v.1 (zn_b v.2.1) (zf_b v.2.1) ?_
  have v := v.2.2 _ rfl
  refine zg_aload_n (q := 24) C dX8_passDigit_23 rfl rfl ?_
  refine zg_get (j := 3) (q := 27) C bX8 (by decide) lkX8_97 dX8_passDigit_24 rfl (okI.get v.1) ?_
  have v := v.2
  refine zg_if_eq (t := 34) (q := 30) C dX8_passDigit_27 (by decide) rfl (fun c => ?_) (fun c => ?_)
  · have v := v.1 c
    refine zg_aload_n (q := 35) C dX8_passDigit_34 rfl rfl ?_
    refine zg_get (j := 0) (q := 38) C bX8 (by decide) lkX8_9 dX8_passDigit_35 rfl (okA.get v.1) ?_
    have v := v.2
    refine zg_aload_n (q := 39) C dX8_passDigit_38 rfl rfl ?_
    refine zg_get (j := 2) (q := 42) C bX8 (by decide) lkX8_101 dX8_passDigit_39 rfl (okI.get v.1) ?_
    have v := v.2
    refine zg_iald (q := 43) C dX8_passDigit_42 rfl v.1 ?_
    have v := v.2
    refine zg_bipush (v := 48) (q := 45) C dX8_passDigit_43 (by decide) rfl ?_
    refine zg_isub (q := 46) C dX8_passDigit_45 rfl ?_
    exact zg_mask [true, false, false, false] (zsX8_passDigit_46 C _ _ _ v)
  · have v := v.2 c
    refine zg_iconst (v := 0) (q := 31) C dX8_passDigit_30 (by decide) rfl ?_
    refine zg_goto (t := 46) C dX8_passDigit_31 (by decide) ?_
    exact zg_mask [true, false, false, false] (zsX8_passDigit_46 C _ _ _ v)
set_option maxRecDepth 100000 in
set_option maxHeartbeats 4000000 in
theorem zsX8_passDigit_0 {E : Wd} {X : Mx} {d : Nat} {Q : Int32 → Hp → Prop} (C : zz_C E X YX8_passDigit (d + 1) 0 0 (fun r h' => ∃ x : Int32, r = some (.int x) ∧ Q x h')) (a0 : Nat) (x1 : Int32) (x2 : Int32) (h : Hp) (v : vcX8_passDigit_0 E d a0 x1 x2 h Q) : GG E X 4 0 0 0 [some (.ref a0), some (.int x1), some (.int x2), none] [] h := by
  refine zg_aload_n (q := 1) C dX8_passDigit_0 rfl rfl ?_
  refine zg_dup (q := 2) C dX8_passDigit_1 rfl rfl ?_
  refine zg_get (j := 3) (q := 5) C bX8 (by decide) lkX8_97 dX8_passDigit_2 rfl (okI.get v.1) ?_
  have v := v.2
  refine zg_aload_n (q := 6) C dX8_passDigit_5 rfl rfl ?_
  refine zg_iload_n (q := 7) C dX8_passDigit_6 rfl rfl ?_
  refine zg_iload_n (q := 8) C dX8_passDigit_7 rfl rfl ?_
  refine zg_cV2I (q := 11) C mX8_sees vX8_sees lmX8_104 rfl (bX8).1 v.1 (Nat.le_of_ble_eq_true rfl) ⟨Nat.le_refl _, Nat.le_refl _⟩ dX8_passDigit_8 rfl v.2 (fun r2 h1 v => ?_)
  refine zg_if_ne (t := 18) (q := 14) C dX8_passDigit_11 (by decide) rfl (fun c => ?_) (fun c => ?_)
  · have v := v.1 c
    refine zg_iconst (v := 0) (q := 19) C dX8_passDigit_18 (by decide) rfl ?_
    exact zg_mask [true, false, false, false] (zsX8_passDigit_19 C _ _ _ _ _ v)
  · have v := v.2 c
    refine zg_iconst (v := 1) (q := 15) C dX8_passDigit_14 (by decide) rfl ?_
    refine zg_goto (t := 19) C dX8_passDigit_15 (by decide) ?_
    exact zg_mask [true, false, false, false] (zsX8_passDigit_19 C _ _ _ _ _ v)
theorem rnX8_passDigit {E : Wd} {d : Nat} {a0 : Nat} {x1 : Int32} {x2 : Int32} {h : Hp} {Q : Int32 → Hp → Prop} (k : vcX8_passDigit_0 E d a0 x1 x2 h Q) : OkI E YX8_passDigit (d + 1) [.ref a0, .int x1, .int x2] h Q :=
  zz_body2 (r := 1) mX8_passDigit (zc_a (zc_i (zc_i zc_n))) (Nat.le_of_ble_eq_true rfl) (fun X C => zsX8_passDigit_0 C a0 x1 x2 h k)
def vcX8_letterHere_0 (E : Wd) (d : Nat) (a0 : Nat) (h : Hp) (Q : Int32 → Hp → Prop) : Prop :=
  okI h a0 8 3 ∧ (¬ (fI h a0 3) = (0 : Int32) → Q ((-1)) h) ∧ ((fI h a0 3) = (0 : Int32) → okI h a0 8 2 ∧ okI h a0 8 1 ∧ ((fI h a0 1) ≤ (fI h a0 2) → Q ((-1)) h) ∧ (¬ (fI h a0 1) ≤ (fI h a0 2) → okA h a0 8 0 ∧ okI h a0 8 2 ∧ okR E h (fA h a0 0) 0 (fI h a0 2) ∧ OkI E YJ0_indexOf_0f7a4 d [.ref (eS E), .int (gA h (fA h a0 0) (fI h a0 2))] h (fun r2 h1 => Q r2 h1)))
set_option maxRecDepth 100000 in
set_option maxHeartbeats 4000000 in
theorem zsX8_letterHere_0 {E : Wd} {X : Mx} {d : Nat} {Q : Int32 → Hp → Prop} (C : zz_C E X YX8_letterHere (d + 1) 0 0 (fun r h' => ∃ x : Int32, r = some (.int x) ∧ Q x h')) (a0 : Nat) (h : Hp) (v : vcX8_letterHere_0 E d a0 h Q) : GG E X 1 0 0 0 [some (.ref a0)] [] h := by
  refine zg_aload_n (q := 1) C dX8_letterHere_0 rfl rfl ?_
  refine zg_get (j := 3) (q := 4) C bX8 (by decide) lkX8_97 dX8_letterHere_1 rfl (okI.get v.1) ?_
  have v := v.2
  refine zg_if_ne (t := 35) (q := 7) C dX8_letterHere_4 (by decide) rfl (fun c => ?_) (fun c => ?_)
  · have v := v.1 c
    refine zg_iconst (v := (-1)) (q := 36) C dX8_letterHere_35 (by decide) rfl ?_
    exact zg_iret C rfl dX8_letterHere_36 ⟨Nat.le_refl _, Nat.le_refl _⟩ ⟨_, rfl, v⟩
  · have v := v.2 c
    refine zg_aload_n (q := 8) C dX8_letterHere_7 rfl rfl ?_
    refine zg_get (j := 2) (q := 11) C bX8 (by decide) lkX8_101 dX8_letterHere_8 rfl (okI.get v.1) ?_
    have v := v.2
    refine zg_aload_n (q := 12) C dX8_letterHere_11 rfl rfl ?_
    refine zg_get (j := 1) (q := 15) C bX8 (by decide) lkX8_94 dX8_letterHere_12 rfl (okI.get v.1) ?_
    have v := v.2
    refine zg_icmp_ge (t := 35) (q := 18) C dX8_letterHere_15 (by decide) rfl (fun c => ?_) (fun c => ?_)
    · have v := v.1 c
      refine zg_iconst (v := (-1)) (q := 36) C dX8_letterHere_35 (by decide) rfl ?_
      exact zg_iret C rfl dX8_letterHere_36 ⟨Nat.le_refl _, Nat.le_refl _⟩ ⟨_, rfl, v⟩
    · have v := v.2 c
      refine zg_ldcS (q := 20) C (Or.inr ⟨rfl, rfl⟩) dX8_letterHere_18 rfl ?_
      refine zg_aload_n (q := 21) C dX8_letterHere_20 rfl rfl ?_
      refine zg_get (j := 0) (q := 24) C bX8 (by decide) lkX8_9 dX8_letterHere_21 rfl (okA.get v.1) ?_
      have v := v.2
      refine zg_aload_n (q := 25) C dX8_letterHere_24 rfl rfl ?_
      refine zg_get (j := 2) (q := 28) C bX8 (by decide) lkX8_101 dX8_letterHere_25 rfl (okI.get v.1) ?_
      have v := v.2
      refine zg_iald (q := 29) C dX8_letterHere_28 rfl v.1 ?_
      have v := v.2
      refine zg_cT1I (q := 32) C mJ0_indexOf_0f7a4 vJ0_indexOf_0f7a4 lmX8_110 rfl rfl rfl (Nat.le_of_ble_eq_true rfl) ⟨Nat.le_refl _, Nat.le_refl _⟩ dX8_letterHere_29 rfl v (fun r2 h1 v => ?_)
      refine zg_goto (t := 36) C dX8_letterHere_32 (by decide) ?_
      exact zg_iret C rfl dX8_letterHere_36 ⟨Nat.le_refl _, Nat.le_refl _⟩ ⟨_, rfl, v⟩
theorem rnX8_letterHere {E : Wd} {d : Nat} {a0 : Nat} {h : Hp} {Q : Int32 → Hp → Prop} (k : vcX8_letterHere_0 E d a0 h Q) : OkI E YX8_letterHere (d + 1) [.ref a0] h Q :=
  zz_body2 (r := 0) mX8_letterHere (zc_a zc_n) (Nat.le_of_ble_eq_true rfl) (fun X C => zsX8_letterHere_0 C a0 h k)
def vcX8_passMen_0 (E : Wd) (d : Nat) (K21 : Nat → Hp → Prop) (a0 : Nat) (h : Hp) (Q : Hp → Prop) : Prop :=
  okI h a0 8 3 ∧ isO h a0 8 ∧ OkI E YX8_letterHere d [.ref a0] h (fun r2 h1 => ((0 : Int32) ≤ r2 → okP h1 a0 8 3 ∧ mB ((fI h a0 3) ||| (0 : Int32)) ∧ ∀ h3, h3 = pF h1 a0 3 (.int ((fI h a0 3) ||| (0 : Int32))) → K21 a0 h3) ∧ (¬ (0 : Int32) ≤ r2 → okP h1 a0 8 3 ∧ mB ((fI h a0 3) ||| (1 : Int32)) ∧ ∀ h4, h4 = pF h1 a0 3 (.int ((fI h a0 3) ||| (1 : Int32))) → K21 a0 h4))
def vcX8_passMen_51 (E : Wd) (d : Nat) (K21 : Nat → Hp → Prop) (a0 : Nat) (s0 : Nat) (s1 : Int32) (h : Hp) (Q : Hp → Prop) : Prop :=
  okP h s0 8 3 ∧ mB s1 ∧ ∀ h1, h1 = pF h s0 3 (.int s1) → okI h1 a0 8 3 ∧ (¬ (fI h1 a0 3) = (0 : Int32) → K21 a0 h1) ∧ ((fI h1 a0 3) = (0 : Int32) → okA h1 a0 8 5 ∧ okA h1 a0 8 5 ∧ okR E h1 (fA h1 a0 5) 0 2 ∧ isO h1 a0 8 ∧ OkI E YX8_letterHere d [.ref a0] h1 (fun r3 h2 => okR E h2 (fA h1 a0 5) 0 ((7 : Int32) + (gA h1 (fA h1 a0 5) 2)) ∧ ∀ h4, h4 = sA h2 (fA h1 a0 5) ((7 : Int32) + (gA h1 (fA h1 a0 5) 2)) r3 → okA h4 a0 8 5 ∧ okR E h4 (fA h4 a0 5) 0 2 ∧ okR E h4 (fA h4 a0 5) 0 2 ∧ ∀ h5, h5 = sA h4 (fA h4 a0 5) 2 ((gA h4 (fA h4 a0 5) 2) + (1 : Int32)) → okI h5 a0 8 2 ∧ okP h5 a0 8 2 ∧ ∀ h6, h6 = pF h5 a0 2 (.int ((fI h5 a0 2) + (1 : Int32))) → K21 a0 h6))
def vcX8_passMen_21 (E : Wd) (d : Nat) (K21 : Nat → Hp → Prop) (a0 : Nat) (h : Hp) (Q : Hp → Prop) : Prop :=
  okI h a0 8 3 ∧ (¬ (fI h a0 3) = (0 : Int32) → Q h) ∧ ((fI h a0 3) = (0 : Int32) → isO h a0 8 ∧ OkI E YX8_letterHere d [.ref a0] h (fun r2 h1 => (r2 < (0 : Int32) → Q h1) ∧ (¬ r2 < (0 : Int32) → okA h1 a0 8 5 ∧ okR E h1 (fA h1 a0 5) 0 2 ∧ (¬ (gA h1 (fA h1 a0 5) 2) = (3 : Int32) → vcX8_passMen_51 E d K21 a0 a0 0 h1 Q) ∧ ((gA h1 (fA h1 a0 5) 2) = (3 : Int32) → vcX8_passMen_51 E d K21 a0 a0 1 h1 Q))))
def zkX8_passMen_21 (E : Wd) (X : Mx) : Nat → Hp → Prop := fun a0 h => GG E X 1 0 0 21 [some (.ref a0)] [] h
set_option maxRecDepth 100000 in
set_option maxHeartbeats 4000000 in
theorem zsX8_passMen_0 {E : Wd} {X : Mx} {d : Nat} {Q : Hp → Prop} (C : zz_C E X YX8_passMen (d + 1) 0 0 (fun r h' => r = none ∧ Q h')) (a0 : Nat) (h : Hp) (v : vcX8_passMen_0 E d (zkX8_passMen_21 E X) a0 h Q) : GG E X 1 0 0 0 [some (.ref a0)] [] h := by
  refine zg_aload_n (q := 1) C dX8_passMen_0 rfl rfl ?_
  refine zg_dup (q := 2) C dX8_passMen_1 rfl rfl ?_
  refine zg_get (j := 3) (q := 5) C bX8 (by decide) lkX8_97 dX8_passMen_2 rfl (okI.get v.1) ?_
  have v := v.2
  refine zg_aload_n (q := 6) C dX8_passMen_5 rfl rfl ?_
  refine zg_cV0I (q := 9) C mX8_letterHere vX8_letterHere lmX8_116 rfl (bX8).1 v.1 (Nat.le_of_ble_eq_true rfl) ⟨Nat.le_refl _, Nat.le_refl _⟩ dX8_passMen_6 rfl v.2 (fun r2 h1 v => ?_)
  refine zg_if_ge (t := 16) (q := 12) C dX8_passMen_9 (by decide) rfl (fun c => ?_) (fun c => ?_)
  · have v := v.1 c
    refine zg_iconst (v := 0) (q := 17) C dX8_passMen_16 (by decide) rfl ?_
    refine zg_ior (q := 18) C dX8_passMen_17 rfl ?_
    refine zg_put (j := 3) (q := 21) C bX8 (by decide) lkX8_97 dX8_passMen_18 rfl rfl v.1 (zn_b v.2.1) (zf_b v.2.1) ?_
    have v := v.2.2 _ rfl
    exact zg_mask [true] v
  · have v := v.2 c
    refine zg_iconst (v := 1) (q := 13) C dX8_passMen_12 (by decide) rfl ?_
    refine zg_goto (t := 17) C dX8_passMen_13 (by decide) ?_
    refine zg_ior (q := 18) C dX8_passMen_17 rfl ?_
    refine zg_put (j := 3) (q := 21) C bX8 (by decide) lkX8_97 dX8_passMen_18 rfl rfl v.1 (zn_b v.2.1) (zf_b v.2.1) ?_
    have v := v.2.2 _ rfl
    exact zg_mask [true] v
set_option maxRecDepth 100000 in
set_option maxHeartbeats 4000000 in
theorem zsX8_passMen_51 {E : Wd} {X : Mx} {d : Nat} {Q : Hp → Prop} (C : zz_C E X YX8_passMen (d + 1) 0 0 (fun r h' => r = none ∧ Q h')) (a0 : Nat) (s0 : Nat) (s1 : Int32) (h : Hp) (v : vcX8_passMen_51 E d (zkX8_passMen_21 E X) a0 s0 s1 h Q) : GG E X 1 0 0 51 [some (.ref a0)] [.int s1, .ref s0] h := by
  refine zg_put (j := 3) (q := 54) C bX8 (by decide) lkX8_97 dX8_passMen_51 rfl rfl v.1 (zn_b v.2.1) (zf_b v.2.1) ?_
  have v := v.2.2 _ rfl
  refine zg_aload_n (q := 55) C dX8_passMen_54 rfl rfl ?_
  refine zg_get (j := 3) (q := 58) C bX8 (by decide) lkX8_97 dX8_passMen_55 rfl (okI.get v.1) ?_
  have v := v.2
  refine zg_if_ne (t := 21) (q := 61) C dX8_passMen_58 (by decide) rfl (fun c => ?_) (fun c => ?_)
  · have v := v.1 c
    exact zg_mask [true] v
  · have v := v.2 c
    refine zg_aload_n (q := 62) C dX8_passMen_61 rfl rfl ?_
    refine zg_get (j := 5) (q := 65) C bX8 (by decide) lkX8_16 dX8_passMen_62 rfl (okA.get v.1) ?_
    have v := v.2
    refine zg_bipush (v := 7) (q := 67) C dX8_passMen_65 (by decide) rfl ?_
    refine zg_aload_n (q := 68) C dX8_passMen_67 rfl rfl ?_
    refine zg_get (j := 5) (q := 71) C bX8 (by decide) lkX8_16 dX8_passMen_68 rfl (okA.get v.1) ?_
    have v := v.2
    refine zg_iconst (v := 2) (q := 72) C dX8_passMen_71 (by decide) rfl ?_
    refine zg_iald (q := 73) C dX8_passMen_72 rfl v.1 ?_
    have v := v.2
    refine zg_iadd (q := 74) C dX8_passMen_73 rfl ?_
    refine zg_aload_n (q := 75) C dX8_passMen_74 rfl rfl ?_
    refine zg_cV0I (q := 78) C mX8_letterHere vX8_letterHere lmX8_116 rfl (bX8).1 v.1 (Nat.le_of_ble_eq_true rfl) ⟨Nat.le_refl _, Nat.le_refl _⟩ dX8_passMen_75 rfl v.2 (fun r3 h2 v => ?_)
    refine zg_iast (q := 79) C dX8_passMen_78 rfl v.1 ?_
    have v := v.2 _ rfl
    refine zg_aload_n (q := 80) C dX8_passMen_79 rfl rfl ?_
    refine zg_get (j := 5) (q := 83) C bX8 (by decide) lkX8_16 dX8_passMen_80 rfl (okA.get v.1) ?_
    have v := v.2
    refine zg_iconst (v := 2) (q := 84) C dX8_passMen_83 (by decide) rfl ?_
    refine zg_dup2 (q := 85) C dX8_passMen_84 rfl rfl rfl ?_
    refine zg_iald (q := 86) C dX8_passMen_85 rfl v.1 ?_
    have v := v.2
    refine zg_iconst (v := 1) (q := 87) C dX8_passMen_86 (by decide) rfl ?_
    refine zg_iadd (q := 88) C dX8_passMen_87 rfl ?_
    refine zg_iast (q := 89) C dX8_passMen_88 rfl v.1 ?_
    have v := v.2 _ rfl
    refine zg_aload_n (q := 90) C dX8_passMen_89 rfl rfl ?_
    refine zg_dup (q := 91) C dX8_passMen_90 rfl rfl ?_
    refine zg_get (j := 2) (q := 94) C bX8 (by decide) lkX8_101 dX8_passMen_91 rfl (okI.get v.1) ?_
    have v := v.2
    refine zg_iconst (v := 1) (q := 95) C dX8_passMen_94 (by decide) rfl ?_
    refine zg_iadd (q := 96) C dX8_passMen_95 rfl ?_
    refine zg_put (j := 2) (q := 99) C bX8 (by decide) lkX8_101 dX8_passMen_96 rfl rfl v.1 rfl rfl ?_
    have v := v.2 _ rfl
    refine zg_goto (t := 21) C dX8_passMen_99 (by decide) ?_
    exact zg_mask [true] v
set_option maxRecDepth 100000 in
set_option maxHeartbeats 4000000 in
theorem zsX8_passMen_21 {E : Wd} {X : Mx} {d : Nat} {Q : Hp → Prop} (C : zz_C E X YX8_passMen (d + 1) 0 0 (fun r h' => r = none ∧ Q h')) (a0 : Nat) (h : Hp) (v : vcX8_passMen_21 E d (zkX8_passMen_21 E X) a0 h Q) : GG E X 1 0 0 21 [some (.ref a0)] [] h := by
  refine zg_aload_n (q := 22) C dX8_passMen_21 rfl rfl ?_
  refine zg_get (j := 3) (q := 25) C bX8 (by decide) lkX8_97 dX8_passMen_22 rfl (okI.get v.1) ?_
  have v := v.2
  refine zg_if_ne (t := 102) (q := 28) C dX8_passMen_25 (by decide) rfl (fun c => ?_) (fun c => ?_)
  · have v := v.1 c
    exact zg_vret C rfl dX8_passMen_102 ⟨Nat.le_refl _, Nat.le_refl _⟩ ⟨rfl, v⟩
  · have v := v.2 c
    refine zg_aload_n (q := 29) C dX8_passMen_28 rfl rfl ?_
    refine zg_cV0I (q := 32) C mX8_letterHere vX8_letterHere lmX8_116 rfl (bX8).1 v.1 (Nat.le_of_ble_eq_true rfl) ⟨Nat.le_refl _, Nat.le_refl _⟩ dX8_passMen_29 rfl v.2 (fun r2 h1 v => ?_)
    refine zg_if_lt (t := 102) (q := 35) C dX8_passMen_32 (by decide) rfl (fun c => ?_) (fun c => ?_)
    · have v := v.1 c
      exact zg_vret C rfl dX8_passMen_102 ⟨Nat.le_refl _, Nat.le_refl _⟩ ⟨rfl, v⟩
    · have v := v.2 c
      refine zg_aload_n (q := 36) C dX8_passMen_35 rfl rfl ?_
      refine zg_aload_n (q := 37) C dX8_passMen_36 rfl rfl ?_
      refine zg_get (j := 5) (q := 40) C bX8 (by decide) lkX8_16 dX8_passMen_37 rfl (okA.get v.1) ?_
      have v := v.2
      refine zg_iconst (v := 2) (q := 41) C dX8_passMen_40 (by decide) rfl ?_
      refine zg_iald (q := 42) C dX8_passMen_41 rfl v.1 ?_
      have v := v.2
      refine zg_iconst (v := 3) (q := 43) C dX8_passMen_42 (by decide) rfl ?_
      refine zg_icmp_ne (t := 50) (q := 46) C dX8_passMen_43 (by decide) rfl (fun c => ?_) (fun c => ?_)
      · have v := v.1 c
        refine zg_iconst (v := 0) (q := 51) C dX8_passMen_50 (by decide) rfl ?_
        exact zg_mask [true] (zsX8_passMen_51 C _ _ _ _ v)
      · have v := v.2 c
        refine zg_iconst (v := 1) (q := 47) C dX8_passMen_46 (by decide) rfl ?_
        refine zg_goto (t := 51) C dX8_passMen_47 (by decide) ?_
        exact zg_mask [true] (zsX8_passMen_51 C _ _ _ _ v)
theorem rnX8_passMen {E : Wd} {d : Nat} {a0 : Nat} {h : Hp} {Q : Hp → Prop} (k : ∀ (K21 : Nat → Hp → Prop),(∀ (a0 : Nat) h, vcX8_passMen_21 E d K21 a0 h Q → K21 a0 h) → vcX8_passMen_0 E d K21 a0 h Q) : OkV E YX8_passMen (d + 1) [.ref a0] h Q :=
  zz_body2 (r := 0) mX8_passMen (zc_a zc_n) (Nat.le_of_ble_eq_true rfl) (fun X C => zsX8_passMen_0 C a0 h (k (zkX8_passMen_21 E X) (fun a0 h v => zsX8_passMen_21 C a0 h v)))
def vcX8_passNumber_0 (E : Wd) (d : Nat) (a0 : Nat) (h : Hp) (Q : Int32 → Hp → Prop) : Prop :=
  isO h a0 8 ∧ OkI E YX8_passDigit d [.ref a0, .int 48, .int 57] h (fun r2 h1 => (r2 ≤ (0 : Int32) → Q r2 h1) ∧ (¬ r2 ≤ (0 : Int32) → isO h1 a0 8 ∧ OkI E YX8_sees d [.ref a0, .int 48, .int 57] h1 (fun r4 h3 => (r4 = (0 : Int32) → Q r2 h3) ∧ (¬ r4 = (0 : Int32) → isO h3 a0 8 ∧ OkI E YX8_passDigit d [.ref a0, .int 48, .int 57] h3 (fun r6 h5 => Q (((10 : Int32) * r2) + r6) h5)))))
set_option maxRecDepth 100000 in
set_option maxHeartbeats 4000000 in
theorem zsX8_passNumber_0 {E : Wd} {X : Mx} {d : Nat} {Q : Int32 → Hp → Prop} (C : zz_C E X YX8_passNumber (d + 1) 0 0 (fun r h' => ∃ x : Int32, r = some (.int x) ∧ Q x h')) (a0 : Nat) (h : Hp) (v : vcX8_passNumber_0 E d a0 h Q) : GG E X 2 0 0 0 [some (.ref a0), none] [] h := by
  refine zg_aload_n (q := 1) C dX8_passNumber_0 rfl rfl ?_
  refine zg_bipush (v := 48) (q := 3) C dX8_passNumber_1 (by decide) rfl ?_
  refine zg_bipush (v := 57) (q := 5) C dX8_passNumber_3 (by decide) rfl ?_
  refine zg_cV2I (q := 8) C mX8_passDigit vX8_passDigit lmX8_120 rfl (bX8).1 v.1 (Nat.le_of_ble_eq_true rfl) ⟨Nat.le_refl _, Nat.le_refl _⟩ dX8_passNumber_5 rfl v.2 (fun r2 h1 v => ?_)
  refine zg_istore_n (q := 9) C dX8_passNumber_8 (by decide) rfl ?_
  refine zg_iload_n (q := 10) C dX8_passNumber_9 rfl rfl ?_
  refine zg_if_le (t := 38) (q := 13) C dX8_passNumber_10 (by decide) rfl (fun c => ?_) (fun c => ?_)
  · have v := v.1 c
    refine zg_iload_n (q := 39) C dX8_passNumber_38 rfl rfl ?_
    exact zg_iret C rfl dX8_passNumber_39 ⟨Nat.le_refl _, Nat.le_refl _⟩ ⟨_, rfl, v⟩
  · have v := v.2 c
    refine zg_aload_n (q := 14) C dX8_passNumber_13 rfl rfl ?_
    refine zg_bipush (v := 48) (q := 16) C dX8_passNumber_14 (by decide) rfl ?_
    refine zg_bipush (v := 57) (q := 18) C dX8_passNumber_16 (by decide) rfl ?_
    refine zg_cV2I (q := 21) C mX8_sees vX8_sees lmX8_104 rfl (bX8).1 v.1 (Nat.le_of_ble_eq_true rfl) ⟨Nat.le_refl _, Nat.le_refl _⟩ dX8_passNumber_18 rfl v.2 (fun r4 h3 v => ?_)
    refine zg_if_eq (t := 38) (q := 24) C dX8_passNumber_21 (by decide) rfl (fun c => ?_) (fun c => ?_)
    · have v := v.1 c
      refine zg_iload_n (q := 39) C dX8_passNumber_38 rfl rfl ?_
      exact zg_iret C rfl dX8_passNumber_39 ⟨Nat.le_refl _, Nat.le_refl _⟩ ⟨_, rfl, v⟩
    · have v := v.2 c
      refine zg_bipush (v := 10) (q := 26) C dX8_passNumber_24 (by decide) rfl ?_
      refine zg_iload_n (q := 27) C dX8_passNumber_26 rfl rfl ?_
      refine zg_imul (q := 28) C dX8_passNumber_27 rfl ?_
      refine zg_aload_n (q := 29) C dX8_passNumber_28 rfl rfl ?_
      refine zg_bipush (v := 48) (q := 31) C dX8_passNumber_29 (by decide) rfl ?_
      refine zg_bipush (v := 57) (q := 33) C dX8_passNumber_31 (by decide) rfl ?_
      refine zg_cV2I (q := 36) C mX8_passDigit vX8_passDigit lmX8_120 rfl (bX8).1 v.1 (Nat.le_of_ble_eq_true rfl) ⟨Nat.le_refl _, Nat.le_refl _⟩ dX8_passNumber_33 rfl v.2 (fun r6 h5 v => ?_)
      refine zg_iadd (q := 37) C dX8_passNumber_36 rfl ?_
      refine zg_istore_n (q := 38) C dX8_passNumber_37 (by decide) rfl ?_
      refine zg_iload_n (q := 39) C dX8_passNumber_38 rfl rfl ?_
      exact zg_iret C rfl dX8_passNumber_39 ⟨Nat.le_refl _, Nat.le_refl _⟩ ⟨_, rfl, v⟩
theorem rnX8_passNumber {E : Wd} {d : Nat} {a0 : Nat} {h : Hp} {Q : Int32 → Hp → Prop} (k : vcX8_passNumber_0 E d a0 h Q) : OkI E YX8_passNumber (d + 1) [.ref a0] h Q :=
  zz_body2 (r := 1) mX8_passNumber (zc_a zc_n) (Nat.le_of_ble_eq_true rfl) (fun X C => zsX8_passNumber_0 C a0 h k)
def vcX8_passSquare_44 (E : Wd) (d : Nat) (a0 : Nat) (x2 : Int32) (h : Hp) (Q : Hp → Prop) : Prop :=
  okA h a0 8 5 ∧ okR E h (fA h a0 5) 0 4 ∧ okI h a0 8 3 ∧ ((fI h a0 3) = (0 : Int32) → okR E h (fA h a0 5) 0 4 ∧ ∀ h1, h1 = sA h (fA h a0 5) 4 ((gA h (fA h a0 5) 4) ||| ((1 : Int32) <<< (x2 &&& 31))) → Q h1) ∧ (¬ (fI h a0 3) = (0 : Int32) → okR E h (fA h a0 5) 0 4 ∧ ∀ h2, h2 = sA h (fA h a0 5) 4 ((gA h (fA h a0 5) 4) ||| (0 : Int32)) → Q h2)
def vcX8_passSquare_0 (E : Wd) (d : Nat) (a0 : Nat) (h : Hp) (Q : Hp → Prop) : Prop :=
  okI h a0 8 2 ∧ isO h a0 8 ∧ OkI E YX8_passNumber d [.ref a0] h (fun r2 h1 => okI h1 a0 8 3 ∧ (¬ (fI h1 a0 3) = (0 : Int32) → vcX8_passSquare_44 E d a0 r2 h1 Q) ∧ ((fI h1 a0 3) = (0 : Int32) → okA h1 a0 8 5 ∧ okR E h1 (fA h1 a0 5) 0 0 ∧ okA h1 a0 8 5 ∧ okR E h1 (fA h1 a0 5) 0 1 ∧ (r2 < ((gA h1 (fA h1 a0 5) 0) * (gA h1 (fA h1 a0 5) 1)) → vcX8_passSquare_44 E d a0 r2 h1 Q) ∧ (¬ r2 < ((gA h1 (fA h1 a0 5) 0) * (gA h1 (fA h1 a0 5) 1)) → okP h1 a0 8 3 ∧ mB 1 ∧ ∀ h3, h3 = pF h1 a0 3 (.int 1) → okP h3 a0 8 2 ∧ ∀ h4, h4 = pF h3 a0 2 (.int (fI h a0 2)) → vcX8_passSquare_44 E d a0 r2 h4 Q)))
set_option maxRecDepth 100000 in
set_option maxHeartbeats 4000000 in
theorem zsX8_passSquare_44 {E : Wd} {X : Mx} {d : Nat} {Q : Hp → Prop} (C : zz_C E X YX8_passSquare (d + 1) 0 0 (fun r h' => r = none ∧ Q h')) (a0 : Nat) (x2 : Int32) (h : Hp) (v : vcX8_passSquare_44 E d a0 x2 h Q) : GG E X 3 0 0 44 [some (.ref a0), none, some (.int x2)] [] h := by
  refine zg_aload_n (q := 45) C dX8_passSquare_44 rfl rfl ?_
  refine zg_get (j := 5) (q := 48) C bX8 (by decide) lkX8_16 dX8_passSquare_45 rfl (okA.get v.1) ?_
  have v := v.2
  refine zg_iconst (v := 4) (q := 49) C dX8_passSquare_48 (by decide) rfl ?_
  refine zg_dup2 (q := 50) C dX8_passSquare_49 rfl rfl rfl ?_
  refine zg_iald (q := 51) C dX8_passSquare_50 rfl v.1 ?_
  have v := v.2
  refine zg_aload_n (q := 52) C dX8_passSquare_51 rfl rfl ?_
  refine zg_get (j := 3) (q := 55) C bX8 (by decide) lkX8_97 dX8_passSquare_52 rfl (okI.get v.1) ?_
  have v := v.2
  refine zg_if_eq (t := 62) (q := 58) C dX8_passSquare_55 (by decide) rfl (fun c => ?_) (fun c => ?_)
  · have v := v.1 c
    refine zg_iconst (v := 1) (q := 63) C dX8_passSquare_62 (by decide) rfl ?_
    refine zg_iload_n (q := 64) C dX8_passSquare_63 rfl rfl ?_
    refine zg_ishl (q := 65) C dX8_passSquare_64 rfl ?_
    refine zg_ior (q := 66) C dX8_passSquare_65 rfl ?_
    refine zg_iast (q := 67) C dX8_passSquare_66 rfl v.1 ?_
    have v := v.2 _ rfl
    exact zg_vret C rfl dX8_passSquare_67 ⟨Nat.le_refl _, Nat.le_refl _⟩ ⟨rfl, v⟩
  · have v := v.2 c
    refine zg_iconst (v := 0) (q := 59) C dX8_passSquare_58 (by decide) rfl ?_
    refine zg_goto (t := 65) C dX8_passSquare_59 (by decide) ?_
    refine zg_ior (q := 66) C dX8_passSquare_65 rfl ?_
    refine zg_iast (q := 67) C dX8_passSquare_66 rfl v.1 ?_
    have v := v.2 _ rfl
    exact zg_vret C rfl dX8_passSquare_67 ⟨Nat.le_refl _, Nat.le_refl _⟩ ⟨rfl, v⟩
set_option maxRecDepth 100000 in
set_option maxHeartbeats 4000000 in
theorem zsX8_passSquare_0 {E : Wd} {X : Mx} {d : Nat} {Q : Hp → Prop} (C : zz_C E X YX8_passSquare (d + 1) 0 0 (fun r h' => r = none ∧ Q h')) (a0 : Nat) (h : Hp) (v : vcX8_passSquare_0 E d a0 h Q) : GG E X 3 0 0 0 [some (.ref a0), none, none] [] h := by
  refine zg_aload_n (q := 1) C dX8_passSquare_0 rfl rfl ?_
  refine zg_get (j := 2) (q := 4) C bX8 (by decide) lkX8_101 dX8_passSquare_1 rfl (okI.get v.1) ?_
  have v := v.2
  refine zg_istore_n (q := 5) C dX8_passSquare_4 (by decide) rfl ?_
  refine zg_aload_n (q := 6) C dX8_passSquare_5 rfl rfl ?_
  refine zg_cV0I (q := 9) C mX8_passNumber vX8_passNumber lmX8_124 rfl (bX8).1 v.1 (Nat.le_of_ble_eq_true rfl) ⟨Nat.le_refl _, Nat.le_refl _⟩ dX8_passSquare_6 rfl v.2 (fun r2 h1 v => ?_)
  refine zg_istore_n (q := 10) C dX8_passSquare_9 (by decide) rfl ?_
  refine zg_aload_n (q := 11) C dX8_passSquare_10 rfl rfl ?_
  refine zg_get (j := 3) (q := 14) C bX8 (by decide) lkX8_97 dX8_passSquare_11 rfl (okI.get v.1) ?_
  have v := v.2
  refine zg_if_ne (t := 44) (q := 17) C dX8_passSquare_14 (by decide) rfl (fun c => ?_) (fun c => ?_)
  · have v := v.1 c
    exact zg_mask [true, false, true] (zsX8_passSquare_44 C _ _ _ v)
  · have v := v.2 c
    refine zg_iload_n (q := 18) C dX8_passSquare_17 rfl rfl ?_
    refine zg_aload_n (q := 19) C dX8_passSquare_18 rfl rfl ?_
    refine zg_get (j := 5) (q := 22) C bX8 (by decide) lkX8_16 dX8_passSquare_19 rfl (okA.get v.1) ?_
    have v := v.2
    refine zg_iconst (v := 0) (q := 23) C dX8_passSquare_22 (by decide) rfl ?_
    refine zg_iald (q := 24) C dX8_passSquare_23 rfl v.1 ?_
    have v := v.2
    refine zg_aload_n (q := 25) C dX8_passSquare_24 rfl rfl ?_
    refine zg_get (j := 5) (q := 28) C bX8 (by decide) lkX8_16 dX8_passSquare_25 rfl (okA.get v.1) ?_
    have v := v.2
    refine zg_iconst (v := 1) (q := 29) C dX8_passSquare_28 (by decide) rfl ?_
    refine zg_iald (q := 30) C dX8_passSquare_29 rfl v.1 ?_
    have v := v.2
    refine zg_imul (q := 31) C dX8_passSquare_30 rfl ?_
    refine zg_icmp_lt (t := 44) (q := 34) C dX8_passSquare_31 (by decide) rfl (fun c => ?_) (fun c => ?_)
    · have v := v.1 c
      exact zg_mask [true, false, true] (zsX8_passSquare_44 C _ _ _ v)
    · have v := v.2 c
      refine zg_aload_n (q := 35) C dX8_passSquare_34 rfl rfl ?_
      refine zg_iconst (v := 1) (q := 36) C dX8_passSquare_35 (by decide) rfl ?_
      refine zg_put (j := 3) (q := 39) C bX8 (by decide) lkX8_97 dX8_passSquare_36 rfl rfl v.1 (zn_b v.2.1) (zf_b v.2.1) ?_
      have v := v.2.2 _ rfl
      refine zg_aload_n (q := 40) C dX8_passSquare_39 rfl rfl ?_
      refine zg_iload_n (q := 41) C dX8_passSquare_40 rfl rfl ?_
      refine zg_put (j := 2) (q := 44) C bX8 (by decide) lkX8_101 dX8_passSquare_41 rfl rfl v.1 rfl rfl ?_
      have v := v.2 _ rfl
      exact zg_mask [true, false, true] (zsX8_passSquare_44 C _ _ _ v)
theorem rnX8_passSquare {E : Wd} {d : Nat} {a0 : Nat} {h : Hp} {Q : Hp → Prop} (k : vcX8_passSquare_0 E d a0 h Q) : OkV E YX8_passSquare (d + 1) [.ref a0] h Q :=
  zz_body2 (r := 2) mX8_passSquare (zc_a zc_n) (Nat.le_of_ble_eq_true rfl) (fun X C => zsX8_passSquare_0 C a0 h k)
def vcX8_passClause_0 (E : Wd) (d : Nat) (K13 : Nat → Hp → Prop) (a0 : Nat) (h : Hp) (Q : Hp → Prop) : Prop :=
  isO h a0 8 ∧ OkI E YX8_passes d [.ref a0, .int 120] h (fun r2 h1 => (r2 = (0 : Int32) → isO h1 a0 8 ∧ OkI E YX8_passes d [.ref a0, .int 109] h1 (fun r4 h3 => (r4 = (0 : Int32) → isO h3 a0 8 ∧ OkI E YX8_passes d [.ref a0, .int 100] h3 (fun r6 h5 => (r6 = (0 : Int32) → isO h5 a0 8 ∧ OkI E YX8_passes d [.ref a0, .int 108] h5 (fun r8 h7 => (r8 = (0 : Int32) → isO h7 a0 8 ∧ OkI E YX8_passes d [.ref a0, .int 119] h7 (fun r10 h9 => (r10 = (0 : Int32) → okP h9 a0 8 3 ∧ mB 1 ∧ ∀ h11, h11 = pF h9 a0 3 (.int 1) → Q h11) ∧ (¬ r10 = (0 : Int32) → okA h9 a0 8 5 ∧ okR E h9 (fA h9 a0 5) 0 5 ∧ ∀ h12, h12 = sA h9 (fA h9 a0 5) 5 1 → Q h12))) ∧ (¬ r8 = (0 : Int32) → okA h7 a0 8 5 ∧ okR E h7 (fA h7 a0 5) 0 5 ∧ ∀ h13, h13 = sA h7 (fA h7 a0 5) 5 ((-1)) → Q h13))) ∧ (¬ r6 = (0 : Int32) → okA h5 a0 8 5 ∧ okR E h5 (fA h5 a0 5) 0 5 ∧ ∀ h14, h14 = sA h5 (fA h5 a0 5) 5 0 → Q h14))) ∧ (¬ r4 = (0 : Int32) → okA h3 a0 8 5 ∧ isO h3 a0 8 ∧ OkI E YX8_passNumber d [.ref a0] h3 (fun r16 h15 => okR E h15 (fA h3 a0 5) 0 6 ∧ ∀ h17, h17 = sA h15 (fA h3 a0 5) 6 r16 → Q h17)))) ∧ (¬ r2 = (0 : Int32) → isO h1 a0 8 ∧ OkV E YX8_passSquare d [.ref a0] h1 (fun h18 => K13 a0 h18)))
def vcX8_passClause_13 (E : Wd) (d : Nat) (K13 : Nat → Hp → Prop) (a0 : Nat) (h : Hp) (Q : Hp → Prop) : Prop :=
  isO h a0 8 ∧ OkI E YX8_passes d [.ref a0, .int 44] h (fun r2 h1 => (r2 = (0 : Int32) → Q h1) ∧ (¬ r2 = (0 : Int32) → isO h1 a0 8 ∧ OkV E YX8_passSquare d [.ref a0] h1 (fun h3 => K13 a0 h3)))
def zkX8_passClause_13 (E : Wd) (X : Mx) : Nat → Hp → Prop := fun a0 h => GG E X 1 0 0 13 [some (.ref a0)] [] h
set_option maxRecDepth 100000 in
set_option maxHeartbeats 4000000 in
theorem zsX8_passClause_0 {E : Wd} {X : Mx} {d : Nat} {Q : Hp → Prop} (C : zz_C E X YX8_passClause (d + 1) 0 0 (fun r h' => r = none ∧ Q h')) (a0 : Nat) (h : Hp) (v : vcX8_passClause_0 E d (zkX8_passClause_13 E X) a0 h Q) : GG E X 1 0 0 0 [some (.ref a0)] [] h := by
  refine zg_aload_n (q := 1) C dX8_passClause_0 rfl rfl ?_
  refine zg_bipush (v := 120) (q := 3) C dX8_passClause_1 (by decide) rfl ?_
  refine zg_cV1I (q := 6) C mX8_passes vX8_passes lmX8_127 rfl (bX8).1 v.1 (Nat.le_of_ble_eq_true rfl) ⟨Nat.le_refl _, Nat.le_refl _⟩ dX8_passClause_3 rfl v.2 (fun r2 h1 v => ?_)
  refine zg_if_eq (t := 29) (q := 9) C dX8_passClause_6 (by decide) rfl (fun c => ?_) (fun c => ?_)
  · have v := v.1 c
    refine zg_aload_n (q := 30) C dX8_passClause_29 rfl rfl ?_
    refine zg_bipush (v := 109) (q := 32) C dX8_passClause_30 (by decide) rfl ?_
    refine zg_cV1I (q := 35) C mX8_passes vX8_passes lmX8_127 rfl (bX8).1 v.1 (Nat.le_of_ble_eq_true rfl) ⟨Nat.le_refl _, Nat.le_refl _⟩ dX8_passClause_32 rfl v.2 (fun r4 h3 v => ?_)
    refine zg_if_eq (t := 52) (q := 38) C dX8_passClause_35 (by decide) rfl (fun c => ?_) (fun c => ?_)
    · have v := v.1 c
      refine zg_aload_n (q := 53) C dX8_passClause_52 rfl rfl ?_
      refine zg_bipush (v := 100) (q := 55) C dX8_passClause_53 (by decide) rfl ?_
      refine zg_cV1I (q := 58) C mX8_passes vX8_passes lmX8_127 rfl (bX8).1 v.1 (Nat.le_of_ble_eq_true rfl) ⟨Nat.le_refl _, Nat.le_refl _⟩ dX8_passClause_55 rfl v.2 (fun r6 h5 v => ?_)
      refine zg_if_eq (t := 71) (q := 61) C dX8_passClause_58 (by decide) rfl (fun c => ?_) (fun c => ?_)
      · have v := v.1 c
        refine zg_aload_n (q := 72) C dX8_passClause_71 rfl rfl ?_
        refine zg_bipush (v := 108) (q := 74) C dX8_passClause_72 (by decide) rfl ?_
        refine zg_cV1I (q := 77) C mX8_passes vX8_passes lmX8_127 rfl (bX8).1 v.1 (Nat.le_of_ble_eq_true rfl) ⟨Nat.le_refl _, Nat.le_refl _⟩ dX8_passClause_74 rfl v.2 (fun r8 h7 v => ?_)
        refine zg_if_eq (t := 90) (q := 80) C dX8_passClause_77 (by decide) rfl (fun c => ?_) (fun c => ?_)
        · have v := v.1 c
          refine zg_aload_n (q := 91) C dX8_passClause_90 rfl rfl ?_
          refine zg_bipush (v := 119) (q := 93) C dX8_passClause_91 (by decide) rfl ?_
          refine zg_cV1I (q := 96) C mX8_passes vX8_passes lmX8_127 rfl (bX8).1 v.1 (Nat.le_of_ble_eq_true rfl) ⟨Nat.le_refl _, Nat.le_refl _⟩ dX8_passClause_93 rfl v.2 (fun r10 h9 v => ?_)
          refine zg_if_eq (t := 109) (q := 99) C dX8_passClause_96 (by decide) rfl (fun c => ?_) (fun c => ?_)
          · have v := v.1 c
            refine zg_aload_n (q := 110) C dX8_passClause_109 rfl rfl ?_
            refine zg_iconst (v := 1) (q := 111) C dX8_passClause_110 (by decide) rfl ?_
            refine zg_put (j := 3) (q := 114) C bX8 (by decide) lkX8_97 dX8_passClause_111 rfl rfl v.1 (zn_b v.2.1) (zf_b v.2.1) ?_
            have v := v.2.2 _ rfl
            exact zg_vret C rfl dX8_passClause_114 ⟨Nat.le_refl _, Nat.le_refl _⟩ ⟨rfl, v⟩
          · have v := v.2 c
            refine zg_aload_n (q := 100) C dX8_passClause_99 rfl rfl ?_
            refine zg_get (j := 5) (q := 103) C bX8 (by decide) lkX8_16 dX8_passClause_100 rfl (okA.get v.1) ?_
            have v := v.2
            refine zg_iconst (v := 5) (q := 104) C dX8_passClause_103 (by decide) rfl ?_
            refine zg_iconst (v := 1) (q := 105) C dX8_passClause_104 (by decide) rfl ?_
            refine zg_iast (q := 106) C dX8_passClause_105 rfl v.1 ?_
            have v := v.2 _ rfl
            refine zg_goto (t := 114) C dX8_passClause_106 (by decide) ?_
            exact zg_vret C rfl dX8_passClause_114 ⟨Nat.le_refl _, Nat.le_refl _⟩ ⟨rfl, v⟩
        · have v := v.2 c
          refine zg_aload_n (q := 81) C dX8_passClause_80 rfl rfl ?_
          refine zg_get (j := 5) (q := 84) C bX8 (by decide) lkX8_16 dX8_passClause_81 rfl (okA.get v.1) ?_
          have v := v.2
          refine zg_iconst (v := 5) (q := 85) C dX8_passClause_84 (by decide) rfl ?_
          refine zg_iconst (v := (-1)) (q := 86) C dX8_passClause_85 (by decide) rfl ?_
          refine zg_iast (q := 87) C dX8_passClause_86 rfl v.1 ?_
          have v := v.2 _ rfl
          refine zg_goto (t := 114) C dX8_passClause_87 (by decide) ?_
          exact zg_vret C rfl dX8_passClause_114 ⟨Nat.le_refl _, Nat.le_refl _⟩ ⟨rfl, v⟩
      · have v := v.2 c
        refine zg_aload_n (q := 62) C dX8_passClause_61 rfl rfl ?_
        refine zg_get (j := 5) (q := 65) C bX8 (by decide) lkX8_16 dX8_passClause_62 rfl (okA.get v.1) ?_
        have v := v.2
        refine zg_iconst (v := 5) (q := 66) C dX8_passClause_65 (by decide) rfl ?_
        refine zg_iconst (v := 0) (q := 67) C dX8_passClause_66 (by decide) rfl ?_
        refine zg_iast (q := 68) C dX8_passClause_67 rfl v.1 ?_
        have v := v.2 _ rfl
        refine zg_goto (t := 114) C dX8_passClause_68 (by decide) ?_
        exact zg_vret C rfl dX8_passClause_114 ⟨Nat.le_refl _, Nat.le_refl _⟩ ⟨rfl, v⟩
    · have v := v.2 c
      refine zg_aload_n (q := 39) C dX8_passClause_38 rfl rfl ?_
      refine zg_get (j := 5) (q := 42) C bX8 (by decide) lkX8_16 dX8_passClause_39 rfl (okA.get v.1) ?_
      have v := v.2
      refine zg_bipush (v := 6) (q := 44) C dX8_passClause_42 (by decide) rfl ?_
      refine zg_aload_n (q := 45) C dX8_passClause_44 rfl rfl ?_
      refine zg_cV0I (q := 48) C mX8_passNumber vX8_passNumber lmX8_124 rfl (bX8).1 v.1 (Nat.le_of_ble_eq_true rfl) ⟨Nat.le_refl _, Nat.le_refl _⟩ dX8_passClause_45 rfl v.2 (fun r16 h15 v => ?_)
      refine zg_iast (q := 49) C dX8_passClause_48 rfl v.1 ?_
      have v := v.2 _ rfl
      refine zg_goto (t := 114) C dX8_passClause_49 (by decide) ?_
      exact zg_vret C rfl dX8_passClause_114 ⟨Nat.le_refl _, Nat.le_refl _⟩ ⟨rfl, v⟩
  · have v := v.2 c
    refine zg_aload_n (q := 10) C dX8_passClause_9 rfl rfl ?_
    refine zg_cV0V (q := 13) C mX8_passSquare vX8_passSquare lmX8_130 rfl (bX8).1 v.1 (Nat.le_of_ble_eq_true rfl) ⟨Nat.le_refl _, Nat.le_refl _⟩ dX8_passClause_10 rfl v.2 (fun h18 v => ?_)
    exact zg_mask [true] v
set_option maxRecDepth 100000 in
set_option maxHeartbeats 4000000 in
theorem zsX8_passClause_13 {E : Wd} {X : Mx} {d : Nat} {Q : Hp → Prop} (C : zz_C E X YX8_passClause (d + 1) 0 0 (fun r h' => r = none ∧ Q h')) (a0 : Nat) (h : Hp) (v : vcX8_passClause_13 E d (zkX8_passClause_13 E X) a0 h Q) : GG E X 1 0 0 13 [some (.ref a0)] [] h := by
  refine zg_aload_n (q := 14) C dX8_passClause_13 rfl rfl ?_
  refine zg_bipush (v := 44) (q := 16) C dX8_passClause_14 (by decide) rfl ?_
  refine zg_cV1I (q := 19) C mX8_passes vX8_passes lmX8_127 rfl (bX8).1 v.1 (Nat.le_of_ble_eq_true rfl) ⟨Nat.le_refl _, Nat.le_refl _⟩ dX8_passClause_16 rfl v.2 (fun r2 h1 v => ?_)
  refine zg_if_eq (t := 114) (q := 22) C dX8_passClause_19 (by decide) rfl (fun c => ?_) (fun c => ?_)
  · have v := v.1 c
    exact zg_vret C rfl dX8_passClause_114 ⟨Nat.le_refl _, Nat.le_refl _⟩ ⟨rfl, v⟩
  · have v := v.2 c
    refine zg_aload_n (q := 23) C dX8_passClause_22 rfl rfl ?_
    refine zg_cV0V (q := 26) C mX8_passSquare vX8_passSquare lmX8_130 rfl (bX8).1 v.1 (Nat.le_of_ble_eq_true rfl) ⟨Nat.le_refl _, Nat.le_refl _⟩ dX8_passClause_23 rfl v.2 (fun h3 v => ?_)
    refine zg_goto (t := 13) C dX8_passClause_26 (by decide) ?_
    exact zg_mask [true] v
theorem rnX8_passClause {E : Wd} {d : Nat} {a0 : Nat} {h : Hp} {Q : Hp → Prop} (k : ∀ (K13 : Nat → Hp → Prop),(∀ (a0 : Nat) h, vcX8_passClause_13 E d K13 a0 h Q → K13 a0 h) → vcX8_passClause_0 E d K13 a0 h Q) : OkV E YX8_passClause (d + 1) [.ref a0] h Q :=
  zz_body2 (r := 0) mX8_passClause (zc_a zc_n) (Nat.le_of_ble_eq_true rfl) (fun X C => zsX8_passClause_0 C a0 h (k (zkX8_passClause_13 E X) (fun a0 h v => zsX8_passClause_13 C a0 h v)))
def vcX8_passGame_0 (E : Wd) (d : Nat) (K12 : Nat → Int32 → Hp → Prop) (K174 : Nat → Hp → Prop) (a0 : Nat) (h : Hp) (Q : Hp → Prop) : Prop :=
  okP h a0 8 2 ∧ ∀ h1, h1 = pF h a0 2 (.int 0) → okP h1 a0 8 3 ∧ mB 0 ∧ ∀ h2, h2 = pF h1 a0 3 (.int 0) → K12 a0 0 h2
def vcX8_passGame_127 (E : Wd) (d : Nat) (K12 : Nat → Int32 → Hp → Prop) (K174 : Nat → Hp → Prop) (a0 : Nat) (s0 : Nat) (s1 : Int32) (s2 : Int32) (h : Hp) (Q : Hp → Prop) : Prop :=
  okP h s0 8 3 ∧ mB (s1 ||| s2) ∧ ∀ h1, h1 = pF h s0 3 (.int (s1 ||| s2)) → isO h1 a0 8 ∧ OkV E YX8_passMen d [.ref a0] h1 (fun h2 => okA h2 a0 8 5 ∧ okA h2 a0 8 5 ∧ okR E h2 (fA h2 a0 5) 0 2 ∧ okR E h2 (fA h2 a0 5) 0 3 ∧ ∀ h3, h3 = sA h2 (fA h2 a0 5) 3 (gA h2 (fA h2 a0 5) 2) → okI h3 a0 8 3 ∧ isO h3 a0 8 ∧ OkI E YX8_passes d [.ref a0, .int 45] h3 (fun r5 h4 => (¬ r5 = (0 : Int32) → okP h4 a0 8 3 ∧ mB ((fI h3 a0 3) ||| (0 : Int32)) ∧ ∀ h6, h6 = pF h4 a0 3 (.int ((fI h3 a0 3) ||| (0 : Int32))) → isO h6 a0 8 ∧ OkV E YX8_passMen d [.ref a0] h6 (fun h7 => K174 a0 h7)) ∧ (r5 = (0 : Int32) → okP h4 a0 8 3 ∧ mB ((fI h3 a0 3) ||| (1 : Int32)) ∧ ∀ h8, h8 = pF h4 a0 3 (.int ((fI h3 a0 3) ||| (1 : Int32))) → isO h8 a0 8 ∧ OkV E YX8_passMen d [.ref a0] h8 (fun h9 => K174 a0 h9))))
def vcX8_passGame_108 (E : Wd) (d : Nat) (K12 : Nat → Int32 → Hp → Prop) (K174 : Nat → Hp → Prop) (a0 : Nat) (h : Hp) (Q : Hp → Prop) : Prop :=
  okI h a0 8 3 ∧ isO h a0 8 ∧ OkI E YX8_passes d [.ref a0, .int 59] h (fun r2 h1 => (¬ r2 = (0 : Int32) → vcX8_passGame_127 E d K12 K174 a0 a0 (fI h a0 3) 0 h1 Q) ∧ (r2 = (0 : Int32) → vcX8_passGame_127 E d K12 K174 a0 a0 (fI h a0 3) 1 h1 Q))
def vcX8_passGame_12 (E : Wd) (d : Nat) (K12 : Nat → Int32 → Hp → Prop) (K174 : Nat → Hp → Prop) (a0 : Nat) (x1 : Int32) (h : Hp) (Q : Hp → Prop) : Prop :=
  ((10 : Int32) ≤ x1 → okA h a0 8 5 ∧ okR E h (fA h a0 5) 0 6 ∧ ∀ h1, h1 = sA h (fA h a0 5) 6 ((-5)) → okA h1 a0 8 5 ∧ isO h1 a0 8 ∧ OkI E YX8_passDigit d [.ref a0, .int 50, .int 54] h1 (fun r3 h2 => okR E h2 (fA h1 a0 5) 0 0 ∧ ∀ h4, h4 = sA h2 (fA h1 a0 5) 0 r3 → okA h4 a0 8 5 ∧ isO h4 a0 8 ∧ OkI E YX8_passDigit d [.ref a0, .int 50, .int 54] h4 (fun r6 h5 => okR E h5 (fA h4 a0 5) 0 1 ∧ ∀ h7, h7 = sA h5 (fA h4 a0 5) 1 r6 → okI h7 a0 8 3 ∧ (¬ (fI h7 a0 3) = (0 : Int32) → vcX8_passGame_108 E d K12 K174 a0 h7 Q) ∧ ((fI h7 a0 3) = (0 : Int32) → okA h7 a0 8 5 ∧ okR E h7 (fA h7 a0 5) 0 0 ∧ okA h7 a0 8 5 ∧ okR E h7 (fA h7 a0 5) 0 1 ∧ (((gA h7 (fA h7 a0 5) 0) * (gA h7 (fA h7 a0 5) 1)) ≤ (12 : Int32) → vcX8_passGame_108 E d K12 K174 a0 h7 Q) ∧ (¬ ((gA h7 (fA h7 a0 5) 0) * (gA h7 (fA h7 a0 5) 1)) ≤ (12 : Int32) → okP h7 a0 8 3 ∧ mB 1 ∧ ∀ h8, h8 = pF h7 a0 3 (.int 1) → okI h8 a0 8 2 ∧ okP h8 a0 8 2 ∧ ∀ h9, h9 = pF h8 a0 2 (.int ((fI h8 a0 2) - (1 : Int32))) → vcX8_passGame_108 E d K12 K174 a0 h9 Q))))) ∧ (¬ (10 : Int32) ≤ x1 → okA h a0 8 5 ∧ okR E h (fA h a0 5) 0 x1 ∧ ∀ h10, h10 = sA h (fA h a0 5) x1 0 → K12 a0 (x1 + 1) h10)
def vcX8_passGame_207 (E : Wd) (d : Nat) (K12 : Nat → Int32 → Hp → Prop) (K174 : Nat → Hp → Prop) (a0 : Nat) (s0 : Nat) (s1 : Int32) (h : Hp) (Q : Hp → Prop) : Prop :=
  okP h s0 8 3 ∧ mB s1 ∧ ∀ h1, h1 = pF h s0 3 (.int s1) → okI h1 a0 8 3 ∧ (¬ (fI h1 a0 3) = (0 : Int32) → K174 a0 h1) ∧ ((fI h1 a0 3) = (0 : Int32) → isO h1 a0 8 ∧ OkV E YX8_passClause d [.ref a0] h1 (fun h2 => K174 a0 h2))
def vcX8_passGame_174 (E : Wd) (d : Nat) (K12 : Nat → Int32 → Hp → Prop) (K174 : Nat → Hp → Prop) (a0 : Nat) (h : Hp) (Q : Hp → Prop) : Prop :=
  okI h a0 8 3 ∧ (¬ (fI h a0 3) = (0 : Int32) → Q h) ∧ ((fI h a0 3) = (0 : Int32) → okI h a0 8 2 ∧ okI h a0 8 1 ∧ ((fI h a0 1) ≤ (fI h a0 2) → Q h) ∧ (¬ (fI h a0 1) ≤ (fI h a0 2) → isO h a0 8 ∧ OkI E YX8_passes d [.ref a0, .int 59] h (fun r2 h1 => (¬ r2 = (0 : Int32) → vcX8_passGame_207 E d K12 K174 a0 a0 0 h1 Q) ∧ (r2 = (0 : Int32) → vcX8_passGame_207 E d K12 K174 a0 a0 1 h1 Q))))
def zkX8_passGame_12 (E : Wd) (X : Mx) : Nat → Int32 → Hp → Prop := fun a0 x1 h => GG E X 2 0 0 12 [some (.ref a0), some (.int x1)] [] h
def zkX8_passGame_174 (E : Wd) (X : Mx) : Nat → Hp → Prop := fun a0 h => GG E X 2 0 0 174 [some (.ref a0), none] [] h
set_option maxRecDepth 100000 in
set_option maxHeartbeats 4000000 in
theorem zsX8_passGame_0 {E : Wd} {X : Mx} {d : Nat} {Q : Hp → Prop} (C : zz_C E X YX8_passGame (d + 1) 0 0 (fun r h' => r = none ∧ Q h')) (a0 : Nat) (h : Hp) (v : vcX8_passGame_0 E d (zkX8_passGame_12 E X) (zkX8_passGame_174 E X) a0 h Q) : GG E X 2 0 0 0 [some (.ref a0), none] [] h := by
  refine zg_aload_n (q := 1) C dX8_passGame_0 rfl rfl ?_
  refine zg_iconst (v := 0) (q := 2) C dX8_passGame_1 (by decide) rfl ?_
  refine zg_put (j := 2) (q := 5) C bX8 (by decide) lkX8_101 dX8_passGame_2 rfl rfl v.1 rfl rfl ?_
  have v := v.2 _ rfl
  refine zg_aload_n (q := 6) C dX8_passGame_5 rfl rfl ?_
  refine zg_iconst (v := 0) (q := 7) C dX8_passGame_6 (by decide) rfl ?_
  refine zg_put (j := 3) (q := 10) C bX8 (by decide) lkX8_97 dX8_passGame_7 rfl rfl v.1 (zn_b v.2.1) (zf_b v.2.1) ?_
  have v := v.2.2 _ rfl
  refine zg_iconst (v := 0) (q := 11) C dX8_passGame_10 (by decide) rfl ?_
  refine zg_istore_n (q := 12) C dX8_passGame_11 (by decide) rfl ?_
  exact zg_mask [true, true] v
set_option maxRecDepth 100000 in
set_option maxHeartbeats 4000000 in
theorem zsX8_passGame_127 {E : Wd} {X : Mx} {d : Nat} {Q : Hp → Prop} (C : zz_C E X YX8_passGame (d + 1) 0 0 (fun r h' => r = none ∧ Q h')) (a0 : Nat) (s0 : Nat) (s1 : Int32) (s2 : Int32) (h : Hp) (v : vcX8_passGame_127 E d (zkX8_passGame_12 E X) (zkX8_passGame_174 E X) a0 s0 s1 s2 h Q) : GG E X 2 0 0 127 [some (.ref a0), none] [.int s2, .int s1, .ref s0] h := by
  refine zg_ior (q := 128) C dX8_passGame_127 rfl ?_
  refine zg_put (j := 3) (q := 131) C bX8 (by decide) lkX8_97 dX8_passGame_128 rfl rfl v.1 (zn_b v.2.1) (zf_b v.2.1) ?_
  have v := v.2.2 _ rfl
  refine zg_aload_n (q := 132) C dX8_passGame_131 rfl rfl ?_
  refine zg_cV0V (q := 135) C mX8_passMen vX8_passMen lmX8_133 rfl (bX8).1 v.1 (Nat.le_of_ble_eq_true rfl) ⟨Nat.le_refl _, Nat.le_refl _⟩ dX8_passGame_132 rfl v.2 (fun h2 v => ?_)
  refine zg_aload_n (q := 136) C dX8_passGame_135 rfl rfl ?_
  refine zg_get (j := 5) (q := 139) C bX8 (by decide) lkX8_16 dX8_passGame_136 rfl (okA.get v.1) ?_
  have v := v.2
  refine zg_iconst (v := 3) (q := 140) C dX8_passGame_139 (by decide) rfl ?_
  refine zg_aload_n (q := 141) C dX8_passGame_140 rfl rfl ?_
  refine zg_get (j := 5) (q := 144) C bX8 (by decide) lkX8_16 dX8_passGame_141 rfl (okA.get v.1) ?_
  have v := v.2
  refine zg_iconst (v := 2) (q := 145) C dX8_passGame_144 (by decide) rfl ?_
  refine zg_iald (q := 146) C dX8_passGame_145 rfl v.1 ?_
  have v := v.2
  refine zg_iast (q := 147) C dX8_passGame_146 rfl v.1 ?_
  have v := v.2 _ rfl
  refine zg_aload_n (q := 148) C dX8_passGame_147 rfl rfl ?_
  refine zg_dup (q := 149) C dX8_passGame_148 rfl rfl ?_
  refine zg_get (j := 3) (q := 152) C bX8 (by decide) lkX8_97 dX8_passGame_149 rfl (okI.get v.1) ?_
  have v := v.2
  refine zg_aload_n (q := 153) C dX8_passGame_152 rfl rfl ?_
  refine zg_bipush (v := 45) (q := 155) C dX8_passGame_153 (by decide) rfl ?_
  refine zg_cV1I (q := 158) C mX8_passes vX8_passes lmX8_127 rfl (bX8).1 v.1 (Nat.le_of_ble_eq_true rfl) ⟨Nat.le_refl _, Nat.le_refl _⟩ dX8_passGame_155 rfl v.2 (fun r5 h4 v => ?_)
  refine zg_if_ne (t := 165) (q := 161) C dX8_passGame_158 (by decide) rfl (fun c => ?_) (fun c => ?_)
  · have v := v.1 c
    refine zg_iconst (v := 0) (q := 166) C dX8_passGame_165 (by decide) rfl ?_
    refine zg_ior (q := 167) C dX8_passGame_166 rfl ?_
    refine zg_put (j := 3) (q := 170) C bX8 (by decide) lkX8_97 dX8_passGame_167 rfl rfl v.1 (zn_b v.2.1) (zf_b v.2.1) ?_
    have v := v.2.2 _ rfl
    refine zg_aload_n (q := 171) C dX8_passGame_170 rfl rfl ?_
    refine zg_cV0V (q := 174) C mX8_passMen vX8_passMen lmX8_133 rfl (bX8).1 v.1 (Nat.le_of_ble_eq_true rfl) ⟨Nat.le_refl _, Nat.le_refl _⟩ dX8_passGame_171 rfl v.2 (fun h7 v => ?_)
    exact zg_mask [true, false] v
  · have v := v.2 c
    refine zg_iconst (v := 1) (q := 162) C dX8_passGame_161 (by decide) rfl ?_
    refine zg_goto (t := 166) C dX8_passGame_162 (by decide) ?_
    refine zg_ior (q := 167) C dX8_passGame_166 rfl ?_
    refine zg_put (j := 3) (q := 170) C bX8 (by decide) lkX8_97 dX8_passGame_167 rfl rfl v.1 (zn_b v.2.1) (zf_b v.2.1) ?_
    have v := v.2.2 _ rfl
    refine zg_aload_n (q := 171) C dX8_passGame_170 rfl rfl ?_
    refine zg_cV0V (q := 174) C mX8_passMen vX8_passMen lmX8_133 rfl (bX8).1 v.1 (Nat.le_of_ble_eq_true rfl) ⟨Nat.le_refl _, Nat.le_refl _⟩ dX8_passGame_171 rfl v.2 (fun h9 v => ?_)
    exact zg_mask [true, false] v
set_option maxRecDepth 100000 in
set_option maxHeartbeats 4000000 in
theorem zsX8_passGame_108 {E : Wd} {X : Mx} {d : Nat} {Q : Hp → Prop} (C : zz_C E X YX8_passGame (d + 1) 0 0 (fun r h' => r = none ∧ Q h')) (a0 : Nat) (h : Hp) (v : vcX8_passGame_108 E d (zkX8_passGame_12 E X) (zkX8_passGame_174 E X) a0 h Q) : GG E X 2 0 0 108 [some (.ref a0), none] [] h := by
  refine zg_aload_n (q := 109) C dX8_passGame_108 rfl rfl ?_
  refine zg_dup (q := 110) C dX8_passGame_109 rfl rfl ?_
  refine zg_get (j := 3) (q := 113) C bX8 (by decide) lkX8_97 dX8_passGame_110 rfl (okI.get v.1) ?_
  have v := v.2
  refine zg_aload_n (q := 114) C dX8_passGame_113 rfl rfl ?_
  refine zg_bipush (v := 59) (q := 116) C dX8_passGame_114 (by decide) rfl ?_
  refine zg_cV1I (q := 119) C mX8_passes vX8_passes lmX8_127 rfl (bX8).1 v.1 (Nat.le_of_ble_eq_true rfl) ⟨Nat.le_refl _, Nat.le_refl _⟩ dX8_passGame_116 rfl v.2 (fun r2 h1 v => ?_)
  refine zg_if_ne (t := 126) (q := 122) C dX8_passGame_119 (by decide) rfl (fun c => ?_) (fun c => ?_)
  · have v := v.1 c
    refine zg_iconst (v := 0) (q := 127) C dX8_passGame_126 (by decide) rfl ?_
    exact zg_mask [true, false] (zsX8_passGame_127 C _ _ _ _ _ v)
  · have v := v.2 c
    refine zg_iconst (v := 1) (q := 123) C dX8_passGame_122 (by decide) rfl ?_
    refine zg_goto (t := 127) C dX8_passGame_123 (by decide) ?_
    exact zg_mask [true, false] (zsX8_passGame_127 C _ _ _ _ _ v)
set_option maxRecDepth 100000 in
set_option maxHeartbeats 4000000 in
theorem zsX8_passGame_12 {E : Wd} {X : Mx} {d : Nat} {Q : Hp → Prop} (C : zz_C E X YX8_passGame (d + 1) 0 0 (fun r h' => r = none ∧ Q h')) (a0 : Nat) (x1 : Int32) (h : Hp) (v : vcX8_passGame_12 E d (zkX8_passGame_12 E X) (zkX8_passGame_174 E X) a0 x1 h Q) : GG E X 2 0 0 12 [some (.ref a0), some (.int x1)] [] h := by
  refine zg_iload_n (q := 13) C dX8_passGame_12 rfl rfl ?_
  refine zg_bipush (v := 10) (q := 15) C dX8_passGame_13 (by decide) rfl ?_
  refine zg_icmp_ge (t := 31) (q := 18) C dX8_passGame_15 (by decide) rfl (fun c => ?_) (fun c => ?_)
  · have v := v.1 c
    refine zg_aload_n (q := 32) C dX8_passGame_31 rfl rfl ?_
    refine zg_get (j := 5) (q := 35) C bX8 (by decide) lkX8_16 dX8_passGame_32 rfl (okA.get v.1) ?_
    have v := v.2
    refine zg_bipush (v := 6) (q := 37) C dX8_passGame_35 (by decide) rfl ?_
    refine zg_bipush (v := (-5)) (q := 39) C dX8_passGame_37 (by decide) rfl ?_
    refine zg_iast (q := 40) C dX8_passGame_39 rfl v.1 ?_
    have v := v.2 _ rfl
    refine zg_aload_n (q := 41) C dX8_passGame_40 rfl rfl ?_
    refine zg_get (j := 5) (q := 44) C bX8 (by decide) lkX8_16 dX8_passGame_41 rfl (okA.get v.1) ?_
    have v := v.2
    refine zg_iconst (v := 0) (q := 45) C dX8_passGame_44 (by decide) rfl ?_
    refine zg_aload_n (q := 46) C dX8_passGame_45 rfl rfl ?_
    refine zg_bipush (v := 50) (q := 48) C dX8_passGame_46 (by decide) rfl ?_
    refine zg_bipush (v := 54) (q := 50) C dX8_passGame_48 (by decide) rfl ?_
    refine zg_cV2I (q := 53) C mX8_passDigit vX8_passDigit lmX8_120 rfl (bX8).1 v.1 (Nat.le_of_ble_eq_true rfl) ⟨Nat.le_refl _, Nat.le_refl _⟩ dX8_passGame_50 rfl v.2 (fun r3 h2 v => ?_)
    refine zg_iast (q := 54) C dX8_passGame_53 rfl v.1 ?_
    have v := v.2 _ rfl
    refine zg_aload_n (q := 55) C dX8_passGame_54 rfl rfl ?_
    refine zg_get (j := 5) (q := 58) C bX8 (by decide) lkX8_16 dX8_passGame_55 rfl (okA.get v.1) ?_
    have v := v.2
    refine zg_iconst (v := 1) (q := 59) C dX8_passGame_58 (by decide) rfl ?_
    refine zg_aload_n (q := 60) C dX8_passGame_59 rfl rfl ?_
    refine zg_bipush (v := 50) (q := 62) C dX8_passGame_60 (by decide) rfl ?_
    refine zg_bipush (v := 54) (q := 64) C dX8_passGame_62 (by decide) rfl ?_
    refine zg_cV2I (q := 67) C mX8_passDigit vX8_passDigit lmX8_120 rfl (bX8).1 v.1 (Nat.le_of_ble_eq_true rfl) ⟨Nat.le_refl _, Nat.le_refl _⟩ dX8_passGame_64 rfl v.2 (fun r6 h5 v => ?_)
    refine zg_iast (q := 68) C dX8_passGame_67 rfl v.1 ?_
    have v := v.2 _ rfl
    refine zg_aload_n (q := 69) C dX8_passGame_68 rfl rfl ?_
    refine zg_get (j := 3) (q := 72) C bX8 (by decide) lkX8_97 dX8_passGame_69 rfl (okI.get v.1) ?_
    have v := v.2
    refine zg_if_ne (t := 108) (q := 75) C dX8_passGame_72 (by decide) rfl (fun c => ?_) (fun c => ?_)
    · have v := v.1 c
      exact zg_mask [true, false] (zsX8_passGame_108 C _ _ v)
    · have v := v.2 c
      refine zg_aload_n (q := 76) C dX8_passGame_75 rfl rfl ?_
      refine zg_get (j := 5) (q := 79) C bX8 (by decide) lkX8_16 dX8_passGame_76 rfl (okA.get v.1) ?_
      have v := v.2
      refine zg_iconst (v := 0) (q := 80) C dX8_passGame_79 (by decide) rfl ?_
      refine zg_iald (q := 81) C dX8_passGame_80 rfl v.1 ?_
      have v := v.2
      refine zg_aload_n (q := 82) C dX8_passGame_81 rfl rfl ?_
      refine zg_get (j := 5) (q := 85) C bX8 (by decide) lkX8_16 dX8_passGame_82 rfl (okA.get v.1) ?_
      have v := v.2
      refine zg_iconst (v := 1) (q := 86) C dX8_passGame_85 (by decide) rfl ?_
      refine zg_iald (q := 87) C dX8_passGame_86 rfl v.1 ?_
      have v := v.2
      refine zg_imul (q := 88) C dX8_passGame_87 rfl ?_
      refine zg_bipush (v := 12) (q := 90) C dX8_passGame_88 (by decide) rfl ?_
      refine zg_icmp_le (t := 108) (q := 93) C dX8_passGame_90 (by decide) rfl (fun c => ?_) (fun c => ?_)
      · have v := v.1 c
        exact zg_mask [true, false] (zsX8_passGame_108 C _ _ v)
      · have v := v.2 c
        refine zg_aload_n (q := 94) C dX8_passGame_93 rfl rfl ?_
        refine zg_iconst (v := 1) (q := 95) C dX8_passGame_94 (by decide) rfl ?_
        refine zg_put (j := 3) (q := 98) C bX8 (by decide) lkX8_97 dX8_passGame_95 rfl rfl v.1 (zn_b v.2.1) (zf_b v.2.1) ?_
        have v := v.2.2 _ rfl
        refine zg_aload_n (q := 99) C dX8_passGame_98 rfl rfl ?_
        refine zg_dup (q := 100) C dX8_passGame_99 rfl rfl ?_
        refine zg_get (j := 2) (q := 103) C bX8 (by decide) lkX8_101 dX8_passGame_100 rfl (okI.get v.1) ?_
        have v := v.2
        refine zg_iconst (v := 1) (q := 104) C dX8_passGame_103 (by decide) rfl ?_
        refine zg_isub (q := 105) C dX8_passGame_104 rfl ?_
        refine zg_put (j := 2) (q := 108) C bX8 (by decide) lkX8_101 dX8_passGame_105 rfl rfl v.1 rfl rfl ?_
        have v := v.2 _ rfl
        exact zg_mask [true, false] (zsX8_passGame_108 C _ _ v)
  · have v := v.2 c
    refine zg_aload_n (q := 19) C dX8_passGame_18 rfl rfl ?_
    refine zg_get (j := 5) (q := 22) C bX8 (by decide) lkX8_16 dX8_passGame_19 rfl (okA.get v.1) ?_
    have v := v.2
    refine zg_iload_n (q := 23) C dX8_passGame_22 rfl rfl ?_
    refine zg_iconst (v := 0) (q := 24) C dX8_passGame_23 (by decide) rfl ?_
    refine zg_iast (q := 25) C dX8_passGame_24 rfl v.1 ?_
    have v := v.2 _ rfl
    refine zg_iinc (v := 1) (q := 28) C dX8_passGame_25 rfl (by decide) (by decide) rfl ?_
    refine zg_goto (t := 12) C dX8_passGame_28 (by decide) ?_
    exact zg_mask [true, true] v
set_option maxRecDepth 100000 in
set_option maxHeartbeats 4000000 in
theorem zsX8_passGame_207 {E : Wd} {X : Mx} {d : Nat} {Q : Hp → Prop} (C : zz_C E X YX8_passGame (d + 1) 0 0 (fun r h' => r = none ∧ Q h')) (a0 : Nat) (s0 : Nat) (s1 : Int32) (h : Hp) (v : vcX8_passGame_207 E d (zkX8_passGame_12 E X) (zkX8_passGame_174 E X) a0 s0 s1 h Q) : GG E X 2 0 0 207 [some (.ref a0), none] [.int s1, .ref s0] h := by
  refine zg_put (j := 3) (q := 210) C bX8 (by decide) lkX8_97 dX8_passGame_207 rfl rfl v.1 (zn_b v.2.1) (zf_b v.2.1) ?_
  have v := v.2.2 _ rfl
  refine zg_aload_n (q := 211) C dX8_passGame_210 rfl rfl ?_
  refine zg_get (j := 3) (q := 214) C bX8 (by decide) lkX8_97 dX8_passGame_211 rfl (okI.get v.1) ?_
  have v := v.2
  refine zg_if_ne (t := 174) (q := 217) C dX8_passGame_214 (by decide) rfl (fun c => ?_) (fun c => ?_)
  · have v := v.1 c
    exact zg_mask [true, false] v
  · have v := v.2 c
    refine zg_aload_n (q := 218) C dX8_passGame_217 rfl rfl ?_
    refine zg_cV0V (q := 221) C mX8_passClause vX8_passClause lmX8_136 rfl (bX8).1 v.1 (Nat.le_of_ble_eq_true rfl) ⟨Nat.le_refl _, Nat.le_refl _⟩ dX8_passGame_218 rfl v.2 (fun h2 v => ?_)
    refine zg_goto (t := 174) C dX8_passGame_221 (by decide) ?_
    exact zg_mask [true, false] v
set_option maxRecDepth 100000 in
set_option maxHeartbeats 4000000 in
theorem zsX8_passGame_174 {E : Wd} {X : Mx} {d : Nat} {Q : Hp → Prop} (C : zz_C E X YX8_passGame (d + 1) 0 0 (fun r h' => r = none ∧ Q h')) (a0 : Nat) (h : Hp) (v : vcX8_passGame_174 E d (zkX8_passGame_12 E X) (zkX8_passGame_174 E X) a0 h Q) : GG E X 2 0 0 174 [some (.ref a0), none] [] h := by
  refine zg_aload_n (q := 175) C dX8_passGame_174 rfl rfl ?_
  refine zg_get (j := 3) (q := 178) C bX8 (by decide) lkX8_97 dX8_passGame_175 rfl (okI.get v.1) ?_
  have v := v.2
  refine zg_if_ne (t := 224) (q := 181) C dX8_passGame_178 (by decide) rfl (fun c => ?_) (fun c => ?_)
  · have v := v.1 c
    exact zg_vret C rfl dX8_passGame_224 ⟨Nat.le_refl _, Nat.le_refl _⟩ ⟨rfl, v⟩
  · have v := v.2 c
    refine zg_aload_n (q := 182) C dX8_passGame_181 rfl rfl ?_
    refine zg_get (j := 2) (q := 185) C bX8 (by decide) lkX8_101 dX8_passGame_182 rfl (okI.get v.1) ?_
    have v := v.2
    refine zg_aload_n (q := 186) C dX8_passGame_185 rfl rfl ?_
    refine zg_get (j := 1) (q := 189) C bX8 (by decide) lkX8_94 dX8_passGame_186 rfl (okI.get v.1) ?_
    have v := v.2
    refine zg_icmp_ge (t := 224) (q := 192) C dX8_passGame_189 (by decide) rfl (fun c => ?_) (fun c => ?_)
    · have v := v.1 c
      exact zg_vret C rfl dX8_passGame_224 ⟨Nat.le_refl _, Nat.le_refl _⟩ ⟨rfl, v⟩
    · have v := v.2 c
      refine zg_aload_n (q := 193) C dX8_passGame_192 rfl rfl ?_
      refine zg_aload_n (q := 194) C dX8_passGame_193 rfl rfl ?_
      refine zg_bipush (v := 59) (q := 196) C dX8_passGame_194 (by decide) rfl ?_
      refine zg_cV1I (q := 199) C mX8_passes vX8_passes lmX8_127 rfl (bX8).1 v.1 (Nat.le_of_ble_eq_true rfl) ⟨Nat.le_refl _, Nat.le_refl _⟩ dX8_passGame_196 rfl v.2 (fun r2 h1 v => ?_)
      refine zg_if_ne (t := 206) (q := 202) C dX8_passGame_199 (by decide) rfl (fun c => ?_) (fun c => ?_)
      · have v := v.1 c
        refine zg_iconst (v := 0) (q := 207) C dX8_passGame_206 (by decide) rfl ?_
        exact zg_mask [true, false] (zsX8_passGame_207 C _ _ _ _ v)
      · have v := v.2 c
        refine zg_iconst (v := 1) (q := 203) C dX8_passGame_202 (by decide) rfl ?_
        refine zg_goto (t := 207) C dX8_passGame_203 (by decide) ?_
        exact zg_mask [true, false] (zsX8_passGame_207 C _ _ _ _ v)
theorem rnX8_passGame {E : Wd} {d : Nat} {a0 : Nat} {h : Hp} {Q : Hp → Prop} (k : ∀ (K12 : Nat → Int32 → Hp → Prop) (K174 : Nat → Hp → Prop),(∀ (a0 : Nat) (x1 : Int32) h, vcX8_passGame_12 E d K12 K174 a0 x1 h Q → K12 a0 x1 h) → (∀ (a0 : Nat) h, vcX8_passGame_174 E d K12 K174 a0 h Q → K174 a0 h) → vcX8_passGame_0 E d K12 K174 a0 h Q) : OkV E YX8_passGame (d + 1) [.ref a0] h Q :=
  zz_body2 (r := 1) mX8_passGame (zc_a zc_n) (Nat.le_of_ble_eq_true rfl) (fun X C => zsX8_passGame_0 C a0 h (k (zkX8_passGame_12 E X) (zkX8_passGame_174 E X) (fun a0 x1 h v => zsX8_passGame_12 C a0 x1 h v) (fun a0 h v => zsX8_passGame_174 C a0 h v)))
def vcX8_countBits_0 (E : Wd) (d : Nat) (K4 : Int32 → Int32 → Hp → Prop) (x0 : Int32) (h : Hp) (Q : Int32 → Hp → Prop) : Prop :=
  K4 0 x0 h
def vcX8_countBits_4 (E : Wd) (d : Nat) (K4 : Int32 → Int32 → Hp → Prop) (x1 : Int32) (x2 : Int32) (h : Hp) (Q : Int32 → Hp → Prop) : Prop :=
  (x2 = (0 : Int32) → Q x1 h) ∧ (¬ x2 = (0 : Int32) → K4 (x1 + 1) (x2 &&& (x2 - (1 : Int32))) h)
def zkX8_countBits_4 (E : Wd) (X : Mx) : Int32 → Int32 → Hp → Prop := fun x1 x2 h => GG E X 3 0 0 4 [none, some (.int x1), some (.int x2)] [] h
set_option maxRecDepth 100000 in
set_option maxHeartbeats 4000000 in
theorem zsX8_countBits_0 {E : Wd} {X : Mx} {d : Nat} {Q : Int32 → Hp → Prop} (C : zz_C E X YX8_countBits d 0 0 (fun r h' => ∃ x : Int32, r = some (.int x) ∧ Q x h')) (x0 : Int32) (h : Hp) (v : vcX8_countBits_0 E d (zkX8_countBits_4 E X) x0 h Q) : GG E X 3 0 0 0 [some (.int x0), none, none] [] h := by
  refine zg_iconst (v := 0) (q := 1) C dX8_countBits_0 (by decide) rfl ?_
  refine zg_istore_n (q := 2) C dX8_countBits_1 (by decide) rfl ?_
  refine zg_iload_n (q := 3) C dX8_countBits_2 rfl rfl ?_
  refine zg_istore_n (q := 4) C dX8_countBits_3 (by decide) rfl ?_
  exact zg_mask [false, true, true] v
set_option maxRecDepth 100000 in
set_option maxHeartbeats 4000000 in
theorem zsX8_countBits_4 {E : Wd} {X : Mx} {d : Nat} {Q : Int32 → Hp → Prop} (C : zz_C E X YX8_countBits d 0 0 (fun r h' => ∃ x : Int32, r = some (.int x) ∧ Q x h')) (x1 : Int32) (x2 : Int32) (h : Hp) (v : vcX8_countBits_4 E d (zkX8_countBits_4 E X) x1 x2 h Q) : GG E X 3 0 0 4 [none, some (.int x1), some (.int x2)] [] h := by
  refine zg_iload_n (q := 5) C dX8_countBits_4 rfl rfl ?_
  refine zg_if_eq (t := 20) (q := 8) C dX8_countBits_5 (by decide) rfl (fun c => ?_) (fun c => ?_)
  · have v := v.1 c
    refine zg_iload_n (q := 21) C dX8_countBits_20 rfl rfl ?_
    exact zg_iret C rfl dX8_countBits_21 ⟨Nat.le_refl _, Nat.le_refl _⟩ ⟨_, rfl, v⟩
  · have v := v.2 c
    refine zg_iinc (v := 1) (q := 11) C dX8_countBits_8 rfl (by decide) (by decide) rfl ?_
    refine zg_iload_n (q := 12) C dX8_countBits_11 rfl rfl ?_
    refine zg_iload_n (q := 13) C dX8_countBits_12 rfl rfl ?_
    refine zg_iconst (v := 1) (q := 14) C dX8_countBits_13 (by decide) rfl ?_
    refine zg_isub (q := 15) C dX8_countBits_14 rfl ?_
    refine zg_iand (q := 16) C dX8_countBits_15 rfl ?_
    refine zg_istore_n (q := 17) C dX8_countBits_16 (by decide) rfl ?_
    refine zg_goto (t := 4) C dX8_countBits_17 (by decide) ?_
    exact zg_mask [false, true, true] v
theorem rnX8_countBits {E : Wd} {d : Nat} {x0 : Int32} {h : Hp} {Q : Int32 → Hp → Prop} (k : ∀ (K4 : Int32 → Int32 → Hp → Prop),(∀ (x1 : Int32) (x2 : Int32) h, vcX8_countBits_4 E d K4 x1 x2 h Q → K4 x1 x2 h) → vcX8_countBits_0 E d K4 x0 h Q) : OkI E YX8_countBits d [.int x0] h Q :=
  zz_body2 (r := 2) mX8_countBits (zc_i zc_n) (Nat.le_of_ble_eq_true rfl) (fun X C => zsX8_countBits_0 C x0 h (k (zkX8_countBits_4 E X) (fun x1 x2 h v => zsX8_countBits_4 C x1 x2 h v)))
def vcX8_copy_0 (E : Wd) (d : Nat) (K2 : Nat → Nat → Int32 → Hp → Prop) (a0 : Nat) (a1 : Nat) (h : Hp) (Q : Hp → Prop) : Prop :=
  K2 a0 a1 0 h
def vcX8_copy_2 (E : Wd) (d : Nat) (K2 : Nat → Nat → Int32 → Hp → Prop) (a0 : Nat) (a1 : Nat) (x2 : Int32) (h : Hp) (Q : Hp → Prop) : Prop :=
  okL E h a0 0 ∧ ((lA h a0) ≤ x2 → Q h) ∧ (¬ (lA h a0) ≤ x2 → okR E h a0 0 x2 ∧ okR E h a1 0 x2 ∧ ∀ h1, h1 = sA h a1 x2 (gA h a0 x2) → K2 a0 a1 (x2 + 1) h1)
def zkX8_copy_2 (E : Wd) (X : Mx) : Nat → Nat → Int32 → Hp → Prop := fun a0 a1 x2 h => GG E X 3 0 0 2 [some (.ref a0), some (.ref a1), some (.int x2)] [] h
set_option maxRecDepth 100000 in
set_option maxHeartbeats 4000000 in
theorem zsX8_copy_0 {E : Wd} {X : Mx} {d : Nat} {Q : Hp → Prop} (C : zz_C E X YX8_copy d 0 0 (fun r h' => r = none ∧ Q h')) (a0 : Nat) (a1 : Nat) (h : Hp) (v : vcX8_copy_0 E d (zkX8_copy_2 E X) a0 a1 h Q) : GG E X 3 0 0 0 [some (.ref a0), some (.ref a1), none] [] h := by
  refine zg_iconst (v := 0) (q := 1) C dX8_copy_0 (by decide) rfl ?_
  refine zg_istore_n (q := 2) C dX8_copy_1 (by decide) rfl ?_
  exact zg_mask [true, true, true] v
set_option maxRecDepth 100000 in
set_option maxHeartbeats 4000000 in
theorem zsX8_copy_2 {E : Wd} {X : Mx} {d : Nat} {Q : Hp → Prop} (C : zz_C E X YX8_copy d 0 0 (fun r h' => r = none ∧ Q h')) (a0 : Nat) (a1 : Nat) (x2 : Int32) (h : Hp) (v : vcX8_copy_2 E d (zkX8_copy_2 E X) a0 a1 x2 h Q) : GG E X 3 0 0 2 [some (.ref a0), some (.ref a1), some (.int x2)] [] h := by
  refine zg_iload_n (q := 3) C dX8_copy_2 rfl rfl ?_
  refine zg_aload_n (q := 4) C dX8_copy_3 rfl rfl ?_
  refine zg_alen (t := 0) (q := 5) C (by decide) dX8_copy_4 rfl v.1 ?_
  have v := v.2
  refine zg_icmp_ge (t := 20) (q := 8) C dX8_copy_5 (by decide) rfl (fun c => ?_) (fun c => ?_)
  · have v := v.1 c
    exact zg_vret C rfl dX8_copy_20 ⟨Nat.le_refl _, Nat.le_refl _⟩ ⟨rfl, v⟩
  · have v := v.2 c
    refine zg_aload_n (q := 9) C dX8_copy_8 rfl rfl ?_
    refine zg_iload_n (q := 10) C dX8_copy_9 rfl rfl ?_
    refine zg_aload_n (q := 11) C dX8_copy_10 rfl rfl ?_
    refine zg_iload_n (q := 12) C dX8_copy_11 rfl rfl ?_
    refine zg_iald (q := 13) C dX8_copy_12 rfl v.1 ?_
    have v := v.2
    refine zg_iast (q := 14) C dX8_copy_13 rfl v.1 ?_
    have v := v.2 _ rfl
    refine zg_iinc (v := 1) (q := 17) C dX8_copy_14 rfl (by decide) (by decide) rfl ?_
    refine zg_goto (t := 2) C dX8_copy_17 (by decide) ?_
    exact zg_mask [true, true, true] v
theorem rnX8_copy {E : Wd} {d : Nat} {a0 : Nat} {a1 : Nat} {h : Hp} {Q : Hp → Prop} (k : ∀ (K2 : Nat → Nat → Int32 → Hp → Prop),(∀ (a0 : Nat) (a1 : Nat) (x2 : Int32) h, vcX8_copy_2 E d K2 a0 a1 x2 h Q → K2 a0 a1 x2 h) → vcX8_copy_0 E d K2 a0 a1 h Q) : OkV E YX8_copy d [.ref a0, .ref a1] h Q :=
  zz_body2 (r := 1) mX8_copy (zc_a (zc_a zc_n)) (Nat.le_of_ble_eq_true rfl) (fun X C => zsX8_copy_0 C a0 a1 h (k (zkX8_copy_2 E X) (fun a0 a1 x2 h v => zsX8_copy_2 C a0 a1 x2 h v)))
def vcX8_define_0 (E : Wd) (d : Nat) (a0 : Nat) (h : Hp) (Q : Int32 → Hp → Prop) : Prop :=
  isO h a0 8 ∧ OkV E YX8_passGame d [.ref a0] h (fun h1 => okP h1 a0 8 1 ∧ ∀ h2, h2 = pF h1 a0 1 (.int 0) → okI h2 a0 8 3 ∧ ((fI h2 a0 3) = (0 : Int32) → okA h2 a0 8 5 ∧ okA h2 a0 8 4 ∧ OkV E YX8_copy d [.ref (fA h2 a0 5), .ref (fA h2 a0 4)] h2 (fun h3 => okP h3 a0 8 7 ∧ mB 1 ∧ ∀ h4, h4 = pF h3 a0 7 (.int 1) → okP h4 a0 8 23 ∧ ∀ h5, h5 = pF h4 a0 23 (.int ((-1))) → isO h5 a0 8 ∧ OkV E YX8_build d [.ref a0] h5 (fun h6 => isO h6 a0 8 ∧ OkI E YX8_squares d [.ref a0] h6 (fun r8 h7 => okA h7 a0 8 4 ∧ okR E h7 (fA h7 a0 4) 0 4 ∧ OkI E YX8_countBits d [.int (gA h7 (fA h7 a0 4) 4)] h7 (fun r10 h9 => Q (r8 - r10) h9))))) ∧ (¬ (fI h2 a0 3) = (0 : Int32) → okI h2 a0 8 2 ∧ Q ((-100 : Int32) - (fI h2 a0 2)) h2))
set_option maxRecDepth 100000 in
set_option maxHeartbeats 4000000 in
theorem zsX8_define_0 {E : Wd} {X : Mx} {d : Nat} {Q : Int32 → Hp → Prop} (C : zz_C E X YX8_define (d + 1) 0 0 (fun r h' => ∃ x : Int32, r = some (.int x) ∧ Q x h')) (a0 : Nat) (h : Hp) (v : vcX8_define_0 E d a0 h Q) : GG E X 1 0 0 0 [some (.ref a0)] [] h := by
  refine zg_aload_n (q := 1) C dX8_define_0 rfl rfl ?_
  refine zg_cV0V (q := 4) C mX8_passGame vX8_passGame lmX8_139 rfl (bX8).1 v.1 (Nat.le_of_ble_eq_true rfl) ⟨Nat.le_refl _, Nat.le_refl _⟩ dX8_define_1 rfl v.2 (fun h1 v => ?_)
  refine zg_aload_n (q := 5) C dX8_define_4 rfl rfl ?_
  refine zg_iconst (v := 0) (q := 6) C dX8_define_5 (by decide) rfl ?_
  refine zg_put (j := 1) (q := 9) C bX8 (by decide) lkX8_94 dX8_define_6 rfl rfl v.1 rfl rfl ?_
  have v := v.2 _ rfl
  refine zg_aload_n (q := 10) C dX8_define_9 rfl rfl ?_
  refine zg_get (j := 3) (q := 13) C bX8 (by decide) lkX8_97 dX8_define_10 rfl (okI.get v.1) ?_
  have v := v.2
  refine zg_if_eq (t := 24) (q := 16) C dX8_define_13 (by decide) rfl (fun c => ?_) (fun c => ?_)
  · have v := v.1 c
    refine zg_aload_n (q := 25) C dX8_define_24 rfl rfl ?_
    refine zg_get (j := 5) (q := 28) C bX8 (by decide) lkX8_16 dX8_define_25 rfl (okA.get v.1) ?_
    have v := v.2
    refine zg_aload_n (q := 29) C dX8_define_28 rfl rfl ?_
    refine zg_get (j := 4) (q := 32) C bX8 (by decide) lkX8_13 dX8_define_29 rfl (okA.get v.1) ?_
    have v := v.2
    refine zg_cS2V (q := 35) C mX8_copy tX8_copy lmX8_142 rfl (Nat.le_of_ble_eq_true rfl) ⟨Nat.le_refl _, Nat.le_refl _⟩ dX8_define_32 rfl v (fun h3 v => ?_)
    refine zg_aload_n (q := 36) C dX8_define_35 rfl rfl ?_
    refine zg_iconst (v := 1) (q := 37) C dX8_define_36 (by decide) rfl ?_
    refine zg_put (j := 7) (q := 40) C bX8 (by decide) lkX8_146 dX8_define_37 rfl rfl v.1 (zn_b v.2.1) (zf_b v.2.1) ?_
    have v := v.2.2 _ rfl
    refine zg_aload_n (q := 41) C dX8_define_40 rfl rfl ?_
    refine zg_iconst (v := (-1)) (q := 42) C dX8_define_41 (by decide) rfl ?_
    refine zg_put (j := 23) (q := 45) C bX8 (by decide) lkX8_67 dX8_define_42 rfl rfl v.1 rfl rfl ?_
    have v := v.2 _ rfl
    refine zg_aload_n (q := 46) C dX8_define_45 rfl rfl ?_
    refine zg_cV0V (q := 49) C mX8_build vX8_build lmX8_149 rfl (bX8).1 v.1 (Nat.le_of_ble_eq_true rfl) ⟨Nat.le_refl _, Nat.le_refl _⟩ dX8_define_46 rfl v.2 (fun h6 v => ?_)
    refine zg_aload_n (q := 50) C dX8_define_49 rfl rfl ?_
    refine zg_cV0I (q := 53) C mX8_squares vX8_squares lmX8_152 rfl (bX8).1 v.1 (Nat.le_of_ble_eq_true rfl) ⟨Nat.le_refl _, Nat.le_refl _⟩ dX8_define_50 rfl v.2 (fun r8 h7 v => ?_)
    refine zg_aload_n (q := 54) C dX8_define_53 rfl rfl ?_
    refine zg_get (j := 4) (q := 57) C bX8 (by decide) lkX8_13 dX8_define_54 rfl (okA.get v.1) ?_
    have v := v.2
    refine zg_iconst (v := 4) (q := 58) C dX8_define_57 (by decide) rfl ?_
    refine zg_iald (q := 59) C dX8_define_58 rfl v.1 ?_
    have v := v.2
    refine zg_cS1I (q := 62) C mX8_countBits tX8_countBits lmX8_155 rfl (Nat.le_of_ble_eq_true rfl) ⟨Nat.le_refl _, Nat.le_refl _⟩ dX8_define_59 rfl v (fun r10 h9 v => ?_)
    refine zg_isub (q := 63) C dX8_define_62 rfl ?_
    exact zg_iret C rfl dX8_define_63 ⟨Nat.le_refl _, Nat.le_refl _⟩ ⟨_, rfl, v⟩
  · have v := v.2 c
    refine zg_bipush (v := (-100)) (q := 18) C dX8_define_16 (by decide) rfl ?_
    refine zg_aload_n (q := 19) C dX8_define_18 rfl rfl ?_
    refine zg_get (j := 2) (q := 22) C bX8 (by decide) lkX8_101 dX8_define_19 rfl (okI.get v.1) ?_
    have v := v.2
    refine zg_isub (q := 23) C dX8_define_22 rfl ?_
    exact zg_iret C rfl dX8_define_23 ⟨Nat.le_refl _, Nat.le_refl _⟩ ⟨_, rfl, v⟩
theorem rnX8_define {E : Wd} {d : Nat} {a0 : Nat} {h : Hp} {Q : Int32 → Hp → Prop} (k : vcX8_define_0 E d a0 h Q) : OkI E YX8_define (d + 1) [.ref a0] h Q :=
  zz_body2 (r := 0) mX8_define (zc_a zc_n) (Nat.le_of_ble_eq_true rfl) (fun X C => zsX8_define_0 C a0 h k)
def vcX8_isWhite_0 (E : Wd) (d : Nat) (a0 : Nat) (x1 : Int32) (h : Hp) (Q : Int32 → Hp → Prop) : Prop :=
  okA h a0 8 4 ∧ okR E h (fA h a0 4) 0 3 ∧ ((gA h (fA h a0 4) 3) ≤ x1 → mB 0 ∧ Q 0 h) ∧ (¬ (gA h (fA h a0 4) 3) ≤ x1 → mB 1 ∧ Q 1 h)
set_option maxRecDepth 100000 in
set_option maxHeartbeats 4000000 in
theorem zsX8_isWhite_0 {E : Wd} {X : Mx} {d : Nat} {Q : Int32 → Hp → Prop} (C : zz_C E X YX8_isWhite d 0 0 (fun r h' => ∃ x : Int32, r = some (.int x) ∧ Q x h')) (a0 : Nat) (x1 : Int32) (h : Hp) (v : vcX8_isWhite_0 E d a0 x1 h Q) : GG E X 2 0 0 0 [some (.ref a0), some (.int x1)] [] h := by
  refine zg_iload_n (q := 1) C dX8_isWhite_0 rfl rfl ?_
  refine zg_aload_n (q := 2) C dX8_isWhite_1 rfl rfl ?_
  refine zg_get (j := 4) (q := 5) C bX8 (by decide) lkX8_13 dX8_isWhite_2 rfl (okA.get v.1) ?_
  have v := v.2
  refine zg_iconst (v := 3) (q := 6) C dX8_isWhite_5 (by decide) rfl ?_
  refine zg_iald (q := 7) C dX8_isWhite_6 rfl v.1 ?_
  have v := v.2
  refine zg_icmp_ge (t := 14) (q := 10) C dX8_isWhite_7 (by decide) rfl (fun c => ?_) (fun c => ?_)
  · have v := v.1 c
    refine zg_iconst (v := 0) (q := 15) C dX8_isWhite_14 (by decide) rfl ?_
    exact zg_zret C rfl dX8_isWhite_15 ⟨Nat.le_refl _, Nat.le_refl _⟩ v.1 ⟨_, rfl, v.2⟩
  · have v := v.2 c
    refine zg_iconst (v := 1) (q := 11) C dX8_isWhite_10 (by decide) rfl ?_
    refine zg_goto (t := 15) C dX8_isWhite_11 (by decide) ?_
    exact zg_zret C rfl dX8_isWhite_15 ⟨Nat.le_refl _, Nat.le_refl _⟩ v.1 ⟨_, rfl, v.2⟩
theorem rnX8_isWhite {E : Wd} {d : Nat} {a0 : Nat} {x1 : Int32} {h : Hp} {Q : Int32 → Hp → Prop} (k : vcX8_isWhite_0 E d a0 x1 h Q) : OkI E YX8_isWhite d [.ref a0, .int x1] h Q :=
  zz_body2 (r := 0) mX8_isWhite (zc_a (zc_i zc_n)) (Nat.le_of_ble_eq_true rfl) (fun X C => zsX8_isWhite_0 C a0 x1 h k)
def vcX8_isOf_14 (E : Wd) (d : Nat) (s0 : Int32) (s1 : Int32) (h : Hp) (Q : Int32 → Hp → Prop) : Prop :=
  (¬ s0 = s1 → mB 0 ∧ Q 0 h) ∧ (s0 = s1 → mB 1 ∧ Q 1 h)
def vcX8_isOf_0 (E : Wd) (d : Nat) (a0 : Nat) (x1 : Int32) (x2 : Int32) (h : Hp) (Q : Int32 → Hp → Prop) : Prop :=
  isO h a0 8 ∧ OkI E YX8_isWhite d [.ref a0, .int x1] h (fun r2 h1 => (¬ x2 = (0 : Int32) → vcX8_isOf_14 E d r2 0 h1 Q) ∧ (x2 = (0 : Int32) → vcX8_isOf_14 E d r2 1 h1 Q))
set_option maxRecDepth 100000 in
set_option maxHeartbeats 4000000 in
theorem zsX8_isOf_14 {E : Wd} {X : Mx} {d : Nat} {Q : Int32 → Hp → Prop} (C : zz_C E X YX8_isOf (d + 1) 0 0 (fun r h' => ∃ x : Int32, r = some (.int x) ∧ Q x h')) (s0 : Int32) (s1 : Int32) (h : Hp) (v : vcX8_isOf_14 E d s0 s1 h Q) : GG E X 3 0 0 14 [none, none, none] [.int s1, .int s0] h := by
  refine zg_icmp_ne (t := 21) (q := 17) C dX8_isOf_14 (by decide) rfl (fun c => ?_) (fun c => ?_)
  · have v := v.1 c
    refine zg_iconst (v := 0) (q := 22) C dX8_isOf_21 (by decide) rfl ?_
    exact zg_zret C rfl dX8_isOf_22 ⟨Nat.le_refl _, Nat.le_refl _⟩ v.1 ⟨_, rfl, v.2⟩
  · have v := v.2 c
    refine zg_iconst (v := 1) (q := 18) C dX8_isOf_17 (by decide) rfl ?_
    refine zg_goto (t := 22) C dX8_isOf_18 (by decide) ?_
    exact zg_zret C rfl dX8_isOf_22 ⟨Nat.le_refl _, Nat.le_refl _⟩ v.1 ⟨_, rfl, v.2⟩
set_option maxRecDepth 100000 in
set_option maxHeartbeats 4000000 in
theorem zsX8_isOf_0 {E : Wd} {X : Mx} {d : Nat} {Q : Int32 → Hp → Prop} (C : zz_C E X YX8_isOf (d + 1) 0 0 (fun r h' => ∃ x : Int32, r = some (.int x) ∧ Q x h')) (a0 : Nat) (x1 : Int32) (x2 : Int32) (h : Hp) (v : vcX8_isOf_0 E d a0 x1 x2 h Q) : GG E X 3 0 0 0 [some (.ref a0), some (.int x1), some (.int x2)] [] h := by
  refine zg_aload_n (q := 1) C dX8_isOf_0 rfl rfl ?_
  refine zg_iload_n (q := 2) C dX8_isOf_1 rfl rfl ?_
  refine zg_cV1I (q := 5) C mX8_isWhite vX8_isWhite lmX8_158 rfl (bX8).1 v.1 (Nat.le_of_ble_eq_true rfl) ⟨Nat.le_refl _, Nat.le_refl _⟩ dX8_isOf_2 rfl v.2 (fun r2 h1 v => ?_)
  refine zg_iload_n (q := 6) C dX8_isOf_5 rfl rfl ?_
  refine zg_if_ne (t := 13) (q := 9) C dX8_isOf_6 (by decide) rfl (fun c => ?_) (fun c => ?_)
  · have v := v.1 c
    refine zg_iconst (v := 0) (q := 14) C dX8_isOf_13 (by decide) rfl ?_
    exact zg_mask [false, false, false] (zsX8_isOf_14 C _ _ _ v)
  · have v := v.2 c
    refine zg_iconst (v := 1) (q := 10) C dX8_isOf_9 (by decide) rfl ?_
    refine zg_goto (t := 14) C dX8_isOf_10 (by decide) ?_
    exact zg_mask [false, false, false] (zsX8_isOf_14 C _ _ _ v)
theorem rnX8_isOf {E : Wd} {d : Nat} {a0 : Nat} {x1 : Int32} {x2 : Int32} {h : Hp} {Q : Int32 → Hp → Prop} (k : vcX8_isOf_0 E d a0 x1 x2 h Q) : OkI E YX8_isOf (d + 1) [.ref a0, .int x1, .int x2] h Q :=
  zz_body2 (r := 0) mX8_isOf (zc_a (zc_i (zc_i zc_n))) (Nat.le_of_ble_eq_true rfl) (fun X C => zsX8_isOf_0 C a0 x1 x2 h k)
def vcX8_royal_0 (E : Wd) (d : Nat) (a0 : Nat) (x1 : Int32) (h : Hp) (Q : Int32 → Hp → Prop) : Prop :=
  (¬ x1 = (0 : Int32) → okA h a0 8 4 ∧ okR E h (fA h a0 4) 0 3 ∧ Q (gA h (fA h a0 4) 3) h) ∧ (x1 = (0 : Int32) → Q 0 h)
set_option maxRecDepth 100000 in
set_option maxHeartbeats 4000000 in
theorem zsX8_royal_0 {E : Wd} {X : Mx} {d : Nat} {Q : Int32 → Hp → Prop} (C : zz_C E X YX8_royal d 0 0 (fun r h' => ∃ x : Int32, r = some (.int x) ∧ Q x h')) (a0 : Nat) (x1 : Int32) (h : Hp) (v : vcX8_royal_0 E d a0 x1 h Q) : GG E X 2 0 0 0 [some (.ref a0), some (.int x1)] [] h := by
  refine zg_iload_n (q := 1) C dX8_royal_0 rfl rfl ?_
  refine zg_if_ne (t := 8) (q := 4) C dX8_royal_1 (by decide) rfl (fun c => ?_) (fun c => ?_)
  · have v := v.1 c
    refine zg_aload_n (q := 9) C dX8_royal_8 rfl rfl ?_
    refine zg_get (j := 4) (q := 12) C bX8 (by decide) lkX8_13 dX8_royal_9 rfl (okA.get v.1) ?_
    have v := v.2
    refine zg_iconst (v := 3) (q := 13) C dX8_royal_12 (by decide) rfl ?_
    refine zg_iald (q := 14) C dX8_royal_13 rfl v.1 ?_
    have v := v.2
    exact zg_iret C rfl dX8_royal_14 ⟨Nat.le_refl _, Nat.le_refl _⟩ ⟨_, rfl, v⟩
  · have v := v.2 c
    refine zg_iconst (v := 0) (q := 5) C dX8_royal_4 (by decide) rfl ?_
    refine zg_goto (t := 14) C dX8_royal_5 (by decide) ?_
    exact zg_iret C rfl dX8_royal_14 ⟨Nat.le_refl _, Nat.le_refl _⟩ ⟨_, rfl, v⟩
theorem rnX8_royal {E : Wd} {d : Nat} {a0 : Nat} {x1 : Int32} {h : Hp} {Q : Int32 → Hp → Prop} (k : vcX8_royal_0 E d a0 x1 h Q) : OkI E YX8_royal d [.ref a0, .int x1] h Q :=
  zz_body2 (r := 0) mX8_royal (zc_a (zc_i zc_n)) (Nat.le_of_ble_eq_true rfl) (fun X C => zsX8_royal_0 C a0 x1 h k)
def vcX8_indexOf_0 (E : Wd) (d : Nat) (a0 : Nat) (a1 : Nat) (x2 : Int32) (h : Hp) (Q : Int32 → Hp → Prop) : Prop :=
  isO h a0 8 ∧ OkI E YX8_squares d [.ref a0] h (fun r2 h1 => okR E h1 a1 0 0 ∧ okR E h1 a1 0 1 ∧ okR E h1 a1 0 2 ∧ Q (((((((gA h1 a1 0) * (r2 + (1 : Int32))) + (gA h1 a1 1)) * (r2 + (1 : Int32))) + (gA h1 a1 2)) * (2 : Int32)) + x2) h1)
set_option maxRecDepth 100000 in
set_option maxHeartbeats 4000000 in
theorem zsX8_indexOf_0 {E : Wd} {X : Mx} {d : Nat} {Q : Int32 → Hp → Prop} (C : zz_C E X YX8_indexOf (d + 1) 0 0 (fun r h' => ∃ x : Int32, r = some (.int x) ∧ Q x h')) (a0 : Nat) (a1 : Nat) (x2 : Int32) (h : Hp) (v : vcX8_indexOf_0 E d a0 a1 x2 h Q) : GG E X 4 0 0 0 [some (.ref a0), some (.ref a1), some (.int x2), none] [] h := by
  refine zg_aload_n (q := 1) C dX8_indexOf_0 rfl rfl ?_
  refine zg_cV0I (q := 4) C mX8_squares vX8_squares lmX8_152 rfl (bX8).1 v.1 (Nat.le_of_ble_eq_true rfl) ⟨Nat.le_refl _, Nat.le_refl _⟩ dX8_indexOf_1 rfl v.2 (fun r2 h1 v => ?_)
  refine zg_iconst (v := 1) (q := 5) C dX8_indexOf_4 (by decide) rfl ?_
  refine zg_iadd (q := 6) C dX8_indexOf_5 rfl ?_
  refine zg_istore_n (q := 7) C dX8_indexOf_6 (by decide) rfl ?_
  refine zg_aload_n (q := 8) C dX8_indexOf_7 rfl rfl ?_
  refine zg_iconst (v := 0) (q := 9) C dX8_indexOf_8 (by decide) rfl ?_
  refine zg_iald (q := 10) C dX8_indexOf_9 rfl v.1 ?_
  have v := v.2
  refine zg_iload_n (q := 11) C dX8_indexOf_10 rfl rfl ?_
  refine zg_imul (q := 12) C dX8_indexOf_11 rfl ?_
  refine zg_aload_n (q := 13) C dX8_indexOf_12 rfl rfl ?_
  refine zg_iconst (v := 1) (q := 14) C dX8_indexOf_13 (by decide) rfl ?_
  refine zg_iald (q := 15) C dX8_indexOf_14 rfl v.1 ?_
  have v := v.2
  refine zg_iadd (q := 16) C dX8_indexOf_15 rfl ?_
  refine zg_iload_n (q := 17) C dX8_indexOf_16 rfl rfl ?_
  refine zg_imul (q := 18) C dX8_indexOf_17 rfl ?_
  refine zg_aload_n (q := 19) C dX8_indexOf_18 rfl rfl ?_
  refine zg_iconst (v := 2) (q := 20) C dX8_indexOf_19 (by decide) rfl ?_
  refine zg_iald (q := 21) C dX8_indexOf_20 rfl v.1 ?_
  have v := v.2
  refine zg_iadd (q := 22) C dX8_indexOf_21 rfl ?_
  refine zg_iconst (v := 2) (q := 23) C dX8_indexOf_22 (by decide) rfl ?_
  refine zg_imul (q := 24) C dX8_indexOf_23 rfl ?_
  refine zg_iload_n (q := 25) C dX8_indexOf_24 rfl rfl ?_
  refine zg_iadd (q := 26) C dX8_indexOf_25 rfl ?_
  exact zg_iret C rfl dX8_indexOf_26 ⟨Nat.le_refl _, Nat.le_refl _⟩ ⟨_, rfl, v⟩
theorem rnX8_indexOf {E : Wd} {d : Nat} {a0 : Nat} {a1 : Nat} {x2 : Int32} {h : Hp} {Q : Int32 → Hp → Prop} (k : vcX8_indexOf_0 E d a0 a1 x2 h Q) : OkI E YX8_indexOf (d + 1) [.ref a0, .ref a1, .int x2] h Q :=
  zz_body2 (r := 1) mX8_indexOf (zc_a (zc_a (zc_i zc_n))) (Nat.le_of_ble_eq_true rfl) (fun X C => zsX8_indexOf_0 C a0 a1 x2 h k)
def vcX8_decode_0 (E : Wd) (d : Nat) (a0 : Nat) (x1 : Int32) (a2 : Nat) (h : Hp) (Q : Hp → Prop) : Prop :=
  isO h a0 8 ∧ OkI E YX8_squares d [.ref a0] h (fun r2 h1 => (¬ (2 : Int32) = (0 : Int32)) ∧ (¬ (r2 + (1 : Int32)) = (0 : Int32)) ∧ okR E h1 a2 0 2 ∧ ∀ h3, h3 = sA h1 a2 2 ((x1 / (2 : Int32)) - (x1 / (2 : Int32)) / (r2 + (1 : Int32)) * (r2 + (1 : Int32))) → (¬ (2 : Int32) = (0 : Int32)) ∧ (¬ (r2 + (1 : Int32)) = (0 : Int32)) ∧ (¬ (r2 + (1 : Int32)) = (0 : Int32)) ∧ okR E h3 a2 0 1 ∧ ∀ h4, h4 = sA h3 a2 1 (((x1 / (2 : Int32)) / (r2 + (1 : Int32))) - ((x1 / (2 : Int32)) / (r2 + (1 : Int32))) / (r2 + (1 : Int32)) * (r2 + (1 : Int32))) → (¬ (2 : Int32) = (0 : Int32)) ∧ (¬ (r2 + (1 : Int32)) = (0 : Int32)) ∧ (¬ (r2 + (1 : Int32)) = (0 : Int32)) ∧ okR E h4 a2 0 0 ∧ ∀ h5, h5 = sA h4 a2 0 (((x1 / (2 : Int32)) / (r2 + (1 : Int32))) / (r2 + (1 : Int32))) → Q h5)
set_option maxRecDepth 100000 in
set_option maxHeartbeats 4000000 in
theorem zsX8_decode_0 {E : Wd} {X : Mx} {d : Nat} {Q : Hp → Prop} (C : zz_C E X YX8_decode (d + 1) 0 0 (fun r h' => r = none ∧ Q h')) (a0 : Nat) (x1 : Int32) (a2 : Nat) (h : Hp) (v : vcX8_decode_0 E d a0 x1 a2 h Q) : GG E X 4 0 0 0 [some (.ref a0), some (.int x1), some (.ref a2), none] [] h := by
  refine zg_aload_n (q := 1) C dX8_decode_0 rfl rfl ?_
  refine zg_cV0I (q := 4) C mX8_squares vX8_squares lmX8_152 rfl (bX8).1 v.1 (Nat.le_of_ble_eq_true rfl) ⟨Nat.le_refl _, Nat.le_refl _⟩ dX8_decode_1 rfl v.2 (fun r2 h1 v => ?_)
  refine zg_iconst (v := 1) (q := 5) C dX8_decode_4 (by decide) rfl ?_
  refine zg_iadd (q := 6) C dX8_decode_5 rfl ?_
  refine zg_istore_n (q := 7) C dX8_decode_6 (by decide) rfl ?_
  refine zg_aload_n (q := 8) C dX8_decode_7 rfl rfl ?_
  refine zg_iconst (v := 2) (q := 9) C dX8_decode_8 (by decide) rfl ?_
  refine zg_iload_n (q := 10) C dX8_decode_9 rfl rfl ?_
  refine zg_iconst (v := 2) (q := 11) C dX8_decode_10 (by decide) rfl ?_
  refine zg_idiv (q := 12) C dX8_decode_11 v.1 rfl ?_
  have v := v.2
  refine zg_iload_n (q := 13) C dX8_decode_12 rfl rfl ?_
  refine zg_irem (q := 14) C dX8_decode_13 v.1 rfl ?_
  have v := v.2
  refine zg_iast (q := 15) C dX8_decode_14 rfl v.1 ?_
  have v := v.2 _ rfl
  refine zg_aload_n (q := 16) C dX8_decode_15 rfl rfl ?_
  refine zg_iconst (v := 1) (q := 17) C dX8_decode_16 (by decide) rfl ?_
  refine zg_iload_n (q := 18) C dX8_decode_17 rfl rfl ?_
  refine zg_iconst (v := 2) (q := 19) C dX8_decode_18 (by decide) rfl ?_
  refine zg_idiv (q := 20) C dX8_decode_19 v.1 rfl ?_
  have v := v.2
  refine zg_iload_n (q := 21) C dX8_decode_20 rfl rfl ?_
  refine zg_idiv (q := 22) C dX8_decode_21 v.1 rfl ?_
  have v := v.2
  refine zg_iload_n (q := 23) C dX8_decode_22 rfl rfl ?_
  refine zg_irem (q := 24) C dX8_decode_23 v.1 rfl ?_
  have v := v.2
  refine zg_iast (q := 25) C dX8_decode_24 rfl v.1 ?_
  have v := v.2 _ rfl
  refine zg_aload_n (q := 26) C dX8_decode_25 rfl rfl ?_
  refine zg_iconst (v := 0) (q := 27) C dX8_decode_26 (by decide) rfl ?_
  refine zg_iload_n (q := 28) C dX8_decode_27 rfl rfl ?_
  refine zg_iconst (v := 2) (q := 29) C dX8_decode_28 (by decide) rfl ?_
  refine zg_idiv (q := 30) C dX8_decode_29 v.1 rfl ?_
  have v := v.2
  refine zg_iload_n (q := 31) C dX8_decode_30 rfl rfl ?_
  refine zg_idiv (q := 32) C dX8_decode_31 v.1 rfl ?_
  have v := v.2
  refine zg_iload_n (q := 33) C dX8_decode_32 rfl rfl ?_
  refine zg_idiv (q := 34) C dX8_decode_33 v.1 rfl ?_
  have v := v.2
  refine zg_iast (q := 35) C dX8_decode_34 rfl v.1 ?_
  have v := v.2 _ rfl
  exact zg_vret C rfl dX8_decode_35 ⟨Nat.le_refl _, Nat.le_refl _⟩ ⟨rfl, v⟩
theorem rnX8_decode {E : Wd} {d : Nat} {a0 : Nat} {x1 : Int32} {a2 : Nat} {h : Hp} {Q : Hp → Prop} (k : vcX8_decode_0 E d a0 x1 a2 h Q) : OkV E YX8_decode (d + 1) [.ref a0, .int x1, .ref a2] h Q :=
  zz_body2 (r := 1) mX8_decode (zc_a (zc_i (zc_a zc_n))) (Nat.le_of_ble_eq_true rfl) (fun X C => zsX8_decode_0 C a0 x1 a2 h k)
def vcX8_occupied_0 (E : Wd) (d : Nat) (K9 : Nat → Nat → Int32 → Int32 → Hp → Prop) (a0 : Nat) (a1 : Nat) (h : Hp) (Q : Int32 → Hp → Prop) : Prop :=
  okA h a0 8 4 ∧ okR E h (fA h a0 4) 0 4 ∧ K9 a0 a1 (gA h (fA h a0 4) 4) 0 h
def vcX8_occupied_9 (E : Wd) (d : Nat) (K9 : Nat → Nat → Int32 → Int32 → Hp → Prop) (a0 : Nat) (a1 : Nat) (x2 : Int32) (x3 : Int32) (h : Hp) (Q : Int32 → Hp → Prop) : Prop :=
  okA h a0 8 4 ∧ okR E h (fA h a0 4) 0 2 ∧ ((gA h (fA h a0 4) 2) ≤ x3 → Q x2 h) ∧ (¬ (gA h (fA h a0 4) 2) ≤ x3 → okR E h a1 0 x3 ∧ isO h a0 8 ∧ OkI E YX8_squares d [.ref a0] h (fun r2 h1 => (r2 ≤ (gA h a1 x3) → K9 a0 a1 (x2 ||| (0 : Int32)) (x3 + 1) h1) ∧ (¬ r2 ≤ (gA h a1 x3) → okR E h1 a1 0 x3 ∧ K9 a0 a1 (x2 ||| ((1 : Int32) <<< ((gA h1 a1 x3) &&& 31))) (x3 + 1) h1)))
def zkX8_occupied_9 (E : Wd) (X : Mx) : Nat → Nat → Int32 → Int32 → Hp → Prop := fun a0 a1 x2 x3 h => GG E X 4 0 0 9 [some (.ref a0), some (.ref a1), some (.int x2), some (.int x3)] [] h
set_option maxRecDepth 100000 in
set_option maxHeartbeats 4000000 in
theorem zsX8_occupied_0 {E : Wd} {X : Mx} {d : Nat} {Q : Int32 → Hp → Prop} (C : zz_C E X YX8_occupied (d + 1) 0 0 (fun r h' => ∃ x : Int32, r = some (.int x) ∧ Q x h')) (a0 : Nat) (a1 : Nat) (h : Hp) (v : vcX8_occupied_0 E d (zkX8_occupied_9 E X) a0 a1 h Q) : GG E X 4 0 0 0 [some (.ref a0), some (.ref a1), none, none] [] h := by
  refine zg_aload_n (q := 1) C dX8_occupied_0 rfl rfl ?_
  refine zg_get (j := 4) (q := 4) C bX8 (by decide) lkX8_13 dX8_occupied_1 rfl (okA.get v.1) ?_
  have v := v.2
  refine zg_iconst (v := 4) (q := 5) C dX8_occupied_4 (by decide) rfl ?_
  refine zg_iald (q := 6) C dX8_occupied_5 rfl v.1 ?_
  have v := v.2
  refine zg_istore_n (q := 7) C dX8_occupied_6 (by decide) rfl ?_
  refine zg_iconst (v := 0) (q := 8) C dX8_occupied_7 (by decide) rfl ?_
  refine zg_istore_n (q := 9) C dX8_occupied_8 (by decide) rfl ?_
  exact zg_mask [true, true, true, true] v
set_option maxRecDepth 100000 in
set_option maxHeartbeats 4000000 in
theorem zsX8_occupied_9 {E : Wd} {X : Mx} {d : Nat} {Q : Int32 → Hp → Prop} (C : zz_C E X YX8_occupied (d + 1) 0 0 (fun r h' => ∃ x : Int32, r = some (.int x) ∧ Q x h')) (a0 : Nat) (a1 : Nat) (x2 : Int32) (x3 : Int32) (h : Hp) (v : vcX8_occupied_9 E d (zkX8_occupied_9 E X) a0 a1 x2 x3 h Q) : GG E X 4 0 0 9 [some (.ref a0), some (.ref a1), some (.int x2), some (.int x3)] [] h := by
  refine zg_iload_n (q := 10) C dX8_occupied_9 rfl rfl ?_
  refine zg_aload_n (q := 11) C dX8_occupied_10 rfl rfl ?_
  refine zg_get (j := 4) (q := 14) C bX8 (by decide) lkX8_13 dX8_occupied_11 rfl (okA.get v.1) ?_
  have v := v.2
  refine zg_iconst (v := 2) (q := 15) C dX8_occupied_14 (by decide) rfl ?_
  refine zg_iald (q := 16) C dX8_occupied_15 rfl v.1 ?_
  have v := v.2
  refine zg_icmp_ge (t := 47) (q := 19) C dX8_occupied_16 (by decide) rfl (fun c => ?_) (fun c => ?_)
  · have v := v.1 c
    refine zg_iload_n (q := 48) C dX8_occupied_47 rfl rfl ?_
    exact zg_iret C rfl dX8_occupied_48 ⟨Nat.le_refl _, Nat.le_refl _⟩ ⟨_, rfl, v⟩
  · have v := v.2 c
    refine zg_iload_n (q := 20) C dX8_occupied_19 rfl rfl ?_
    refine zg_aload_n (q := 21) C dX8_occupied_20 rfl rfl ?_
    refine zg_iload_n (q := 22) C dX8_occupied_21 rfl rfl ?_
    refine zg_iald (q := 23) C dX8_occupied_22 rfl v.1 ?_
    have v := v.2
    refine zg_aload_n (q := 24) C dX8_occupied_23 rfl rfl ?_
    refine zg_cV0I (q := 27) C mX8_squares vX8_squares lmX8_152 rfl (bX8).1 v.1 (Nat.le_of_ble_eq_true rfl) ⟨Nat.le_refl _, Nat.le_refl _⟩ dX8_occupied_24 rfl v.2 (fun r2 h1 v => ?_)
    refine zg_icmp_ge (t := 38) (q := 30) C dX8_occupied_27 (by decide) rfl (fun c => ?_) (fun c => ?_)
    · have v := v.1 c
      refine zg_iconst (v := 0) (q := 39) C dX8_occupied_38 (by decide) rfl ?_
      refine zg_ior (q := 40) C dX8_occupied_39 rfl ?_
      refine zg_istore_n (q := 41) C dX8_occupied_40 (by decide) rfl ?_
      refine zg_iinc (v := 1) (q := 44) C dX8_occupied_41 rfl (by decide) (by decide) rfl ?_
      refine zg_goto (t := 9) C dX8_occupied_44 (by decide) ?_
      exact zg_mask [true, true, true, true] v
    · have v := v.2 c
      refine zg_iconst (v := 1) (q := 31) C dX8_occupied_30 (by decide) rfl ?_
      refine zg_aload_n (q := 32) C dX8_occupied_31 rfl rfl ?_
      refine zg_iload_n (q := 33) C dX8_occupied_32 rfl rfl ?_
      refine zg_iald (q := 34) C dX8_occupied_33 rfl v.1 ?_
      have v := v.2
      refine zg_ishl (q := 35) C dX8_occupied_34 rfl ?_
      refine zg_goto (t := 39) C dX8_occupied_35 (by decide) ?_
      refine zg_ior (q := 40) C dX8_occupied_39 rfl ?_
      refine zg_istore_n (q := 41) C dX8_occupied_40 (by decide) rfl ?_
      refine zg_iinc (v := 1) (q := 44) C dX8_occupied_41 rfl (by decide) (by decide) rfl ?_
      refine zg_goto (t := 9) C dX8_occupied_44 (by decide) ?_
      exact zg_mask [true, true, true, true] v
theorem rnX8_occupied {E : Wd} {d : Nat} {a0 : Nat} {a1 : Nat} {h : Hp} {Q : Int32 → Hp → Prop} (k : ∀ (K9 : Nat → Nat → Int32 → Int32 → Hp → Prop),(∀ (a0 : Nat) (a1 : Nat) (x2 : Int32) (x3 : Int32) h, vcX8_occupied_9 E d K9 a0 a1 x2 x3 h Q → K9 a0 a1 x2 x3 h) → vcX8_occupied_0 E d K9 a0 a1 h Q) : OkI E YX8_occupied (d + 1) [.ref a0, .ref a1] h Q :=
  zz_body2 (r := 2) mX8_occupied (zc_a (zc_a zc_n)) (Nat.le_of_ble_eq_true rfl) (fun X C => zsX8_occupied_0 C a0 a1 h (k (zkX8_occupied_9 E X) (fun a0 a1 x2 x3 h v => zsX8_occupied_9 C a0 a1 x2 x3 h v)))
def vcX8_size_0 (E : Wd) (d : Nat) (x0 : Int32) (h : Hp) (Q : Int32 → Hp → Prop) : Prop :=
  ((0 : Int32) ≤ x0 → Q x0 h) ∧ (¬ (0 : Int32) ≤ x0 → Q (-x0) h)
set_option maxRecDepth 100000 in
set_option maxHeartbeats 4000000 in
theorem zsX8_size_0 {E : Wd} {X : Mx} {d : Nat} {Q : Int32 → Hp → Prop} (C : zz_C E X YX8_size d 0 0 (fun r h' => ∃ x : Int32, r = some (.int x) ∧ Q x h')) (x0 : Int32) (h : Hp) (v : vcX8_size_0 E d x0 h Q) : GG E X 1 0 0 0 [some (.int x0)] [] h := by
  refine zg_iload_n (q := 1) C dX8_size_0 rfl rfl ?_
  refine zg_if_ge (t := 9) (q := 4) C dX8_size_1 (by decide) rfl (fun c => ?_) (fun c => ?_)
  · have v := v.1 c
    refine zg_iload_n (q := 10) C dX8_size_9 rfl rfl ?_
    exact zg_iret C rfl dX8_size_10 ⟨Nat.le_refl _, Nat.le_refl _⟩ ⟨_, rfl, v⟩
  · have v := v.2 c
    refine zg_iload_n (q := 5) C dX8_size_4 rfl rfl ?_
    refine zg_ineg (q := 6) C dX8_size_5 rfl ?_
    refine zg_goto (t := 10) C dX8_size_6 (by decide) ?_
    exact zg_iret C rfl dX8_size_10 ⟨Nat.le_refl _, Nat.le_refl _⟩ ⟨_, rfl, v⟩
theorem rnX8_size {E : Wd} {d : Nat} {x0 : Int32} {h : Hp} {Q : Int32 → Hp → Prop} (k : vcX8_size_0 E d x0 h Q) : OkI E YX8_size d [.int x0] h Q :=
  zz_body2 (r := 0) mX8_size (zc_i zc_n) (Nat.le_of_ble_eq_true rfl) (fun X C => zsX8_size_0 C x0 h k)
def vcX8_sign_0 (E : Wd) (d : Nat) (x0 : Int32) (h : Hp) (Q : Int32 → Hp → Prop) : Prop :=
  ((0 : Int32) ≤ x0 → (x0 ≤ (0 : Int32) → Q 0 h) ∧ (¬ x0 ≤ (0 : Int32) → Q 1 h)) ∧ (¬ (0 : Int32) ≤ x0 → Q ((-1)) h)
set_option maxRecDepth 100000 in
set_option maxHeartbeats 4000000 in
theorem zsX8_sign_0 {E : Wd} {X : Mx} {d : Nat} {Q : Int32 → Hp → Prop} (C : zz_C E X YX8_sign d 0 0 (fun r h' => ∃ x : Int32, r = some (.int x) ∧ Q x h')) (x0 : Int32) (h : Hp) (v : vcX8_sign_0 E d x0 h Q) : GG E X 1 0 0 0 [some (.int x0)] [] h := by
  refine zg_iload_n (q := 1) C dX8_sign_0 rfl rfl ?_
  refine zg_if_ge (t := 8) (q := 4) C dX8_sign_1 (by decide) rfl (fun c => ?_) (fun c => ?_)
  · have v := v.1 c
    refine zg_iload_n (q := 9) C dX8_sign_8 rfl rfl ?_
    refine zg_if_le (t := 16) (q := 12) C dX8_sign_9 (by decide) rfl (fun c => ?_) (fun c => ?_)
    · have v := v.1 c
      refine zg_iconst (v := 0) (q := 17) C dX8_sign_16 (by decide) rfl ?_
      exact zg_iret C rfl dX8_sign_17 ⟨Nat.le_refl _, Nat.le_refl _⟩ ⟨_, rfl, v⟩
    · have v := v.2 c
      refine zg_iconst (v := 1) (q := 13) C dX8_sign_12 (by decide) rfl ?_
      refine zg_goto (t := 17) C dX8_sign_13 (by decide) ?_
      exact zg_iret C rfl dX8_sign_17 ⟨Nat.le_refl _, Nat.le_refl _⟩ ⟨_, rfl, v⟩
  · have v := v.2 c
    refine zg_iconst (v := (-1)) (q := 5) C dX8_sign_4 (by decide) rfl ?_
    refine zg_goto (t := 17) C dX8_sign_5 (by decide) ?_
    exact zg_iret C rfl dX8_sign_17 ⟨Nat.le_refl _, Nat.le_refl _⟩ ⟨_, rfl, v⟩
theorem rnX8_sign {E : Wd} {d : Nat} {x0 : Int32} {h : Hp} {Q : Int32 → Hp → Prop} (k : vcX8_sign_0 E d x0 h Q) : OkI E YX8_sign d [.int x0] h Q :=
  zz_body2 (r := 0) mX8_sign (zc_i zc_n) (Nat.le_of_ble_eq_true rfl) (fun X C => zsX8_sign_0 C x0 h k)
def vcX8_isClear_0 (E : Wd) (d : Nat) (K51 : Int32 → Int32 → Int32 → Int32 → Int32 → Int32 → Int32 → Hp → Prop) (a0 : Nat) (x1 : Int32) (x2 : Int32) (x3 : Int32) (h : Hp) (Q : Int32 → Hp → Prop) : Prop :=
  okA h a0 8 4 ∧ okR E h (fA h a0 4) 0 0 ∧ (¬ (gA h (fA h a0 4) 0) = (0 : Int32)) ∧ (¬ (gA h (fA h a0 4) 0) = (0 : Int32)) ∧ OkI E YX8_sign d [.int ((x2 - x2 / (gA h (fA h a0 4) 0) * (gA h (fA h a0 4) 0)) - (x1 - x1 / (gA h (fA h a0 4) 0) * (gA h (fA h a0 4) 0)))] h (fun r2 h1 => (¬ (gA h (fA h a0 4) 0) = (0 : Int32)) ∧ (¬ (gA h (fA h a0 4) 0) = (0 : Int32)) ∧ OkI E YX8_sign d [.int ((x2 / (gA h (fA h a0 4) 0)) - (x1 / (gA h (fA h a0 4) 0)))] h1 (fun r4 h3 => K51 x2 x3 (gA h (fA h a0 4) 0) r2 r4 1 ((x1 + (r4 * (gA h (fA h a0 4) 0))) + r2) h3))
def vcX8_isClear_73 (E : Wd) (d : Nat) (K51 : Int32 → Int32 → Int32 → Int32 → Int32 → Int32 → Int32 → Hp → Prop) (x2 : Int32) (x3 : Int32) (x4 : Int32) (x5 : Int32) (x6 : Int32) (x8 : Int32) (s0 : Int32) (s1 : Int32) (h : Hp) (Q : Int32 → Hp → Prop) : Prop :=
  K51 x2 x3 x4 x5 x6 (s0 &&& s1) (x8 + ((x6 * x4) + x5)) h
def vcX8_isClear_51 (E : Wd) (d : Nat) (K51 : Int32 → Int32 → Int32 → Int32 → Int32 → Int32 → Int32 → Hp → Prop) (x2 : Int32) (x3 : Int32) (x4 : Int32) (x5 : Int32) (x6 : Int32) (x7 : Int32) (x8 : Int32) (h : Hp) (Q : Int32 → Hp → Prop) : Prop :=
  (x8 = x2 → mB x7 ∧ Q x7 h) ∧ (¬ x8 = x2 → OkI E YX8_has d [.int x3, .int x8] h (fun r2 h1 => (¬ r2 = (0 : Int32) → vcX8_isClear_73 E d K51 x2 x3 x4 x5 x6 x8 x7 0 h1 Q) ∧ (r2 = (0 : Int32) → vcX8_isClear_73 E d K51 x2 x3 x4 x5 x6 x8 x7 1 h1 Q)))
def zkX8_isClear_51 (E : Wd) (X : Mx) : Int32 → Int32 → Int32 → Int32 → Int32 → Int32 → Int32 → Hp → Prop := fun x2 x3 x4 x5 x6 x7 x8 h => GG E X 9 0 0 51 [none, none, some (.int x2), some (.int x3), some (.int x4), some (.int x5), some (.int x6), some (.int x7), some (.int x8)] [] h
set_option maxRecDepth 100000 in
set_option maxHeartbeats 4000000 in
theorem zsX8_isClear_0 {E : Wd} {X : Mx} {d : Nat} {Q : Int32 → Hp → Prop} (C : zz_C E X YX8_isClear (d + 1) 0 0 (fun r h' => ∃ x : Int32, r = some (.int x) ∧ Q x h')) (a0 : Nat) (x1 : Int32) (x2 : Int32) (x3 : Int32) (h : Hp) (v : vcX8_isClear_0 E d (zkX8_isClear_51 E X) a0 x1 x2 x3 h Q) : GG E X 9 0 0 0 [some (.ref a0), some (.int x1), some (.int x2), some (.int x3), none, none, none, none, none] [] h := by
  refine zg_aload_n (q := 1) C dX8_isClear_0 rfl rfl ?_
  refine zg_get (j := 4) (q := 4) C bX8 (by decide) lkX8_13 dX8_isClear_1 rfl (okA.get v.1) ?_
  have v := v.2
  refine zg_iconst (v := 0) (q := 5) C dX8_isClear_4 (by decide) rfl ?_
  refine zg_iald (q := 6) C dX8_isClear_5 rfl v.1 ?_
  have v := v.2
  refine zg_istore (q := 8) C dX8_isClear_6 (by decide) rfl ?_
  refine zg_iload_n (q := 9) C dX8_isClear_8 rfl rfl ?_
  refine zg_iload (q := 11) C dX8_isClear_9 rfl rfl ?_
  refine zg_irem (q := 12) C dX8_isClear_11 v.1 rfl ?_
  have v := v.2
  refine zg_iload_n (q := 13) C dX8_isClear_12 rfl rfl ?_
  refine zg_iload (q := 15) C dX8_isClear_13 rfl rfl ?_
  refine zg_irem (q := 16) C dX8_isClear_15 v.1 rfl ?_
  have v := v.2
  refine zg_isub (q := 17) C dX8_isClear_16 rfl ?_
  refine zg_cS1I (q := 20) C mX8_sign tX8_sign lmX8_161 rfl (Nat.le_of_ble_eq_true rfl) ⟨Nat.le_refl _, Nat.le_refl _⟩ dX8_isClear_17 rfl v (fun r2 h1 v => ?_)
  refine zg_istore (q := 22) C dX8_isClear_20 (by decide) rfl ?_
  refine zg_iload_n (q := 23) C dX8_isClear_22 rfl rfl ?_
  refine zg_iload (q := 25) C dX8_isClear_23 rfl rfl ?_
  refine zg_idiv (q := 26) C dX8_isClear_25 v.1 rfl ?_
  have v := v.2
  refine zg_iload_n (q := 27) C dX8_isClear_26 rfl rfl ?_
  refine zg_iload (q := 29) C dX8_isClear_27 rfl rfl ?_
  refine zg_idiv (q := 30) C dX8_isClear_29 v.1 rfl ?_
  have v := v.2
  refine zg_isub (q := 31) C dX8_isClear_30 rfl ?_
  refine zg_cS1I (q := 34) C mX8_sign tX8_sign lmX8_161 rfl (Nat.le_of_ble_eq_true rfl) ⟨Nat.le_refl _, Nat.le_refl _⟩ dX8_isClear_31 rfl v (fun r4 h3 v => ?_)
  refine zg_istore (q := 36) C dX8_isClear_34 (by decide) rfl ?_
  refine zg_iconst (v := 1) (q := 37) C dX8_isClear_36 (by decide) rfl ?_
  refine zg_istore (q := 39) C dX8_isClear_37 (by decide) rfl ?_
  refine zg_iload_n (q := 40) C dX8_isClear_39 rfl rfl ?_
  refine zg_iload (q := 42) C dX8_isClear_40 rfl rfl ?_
  refine zg_iload (q := 44) C dX8_isClear_42 rfl rfl ?_
  refine zg_imul (q := 45) C dX8_isClear_44 rfl ?_
  refine zg_iadd (q := 46) C dX8_isClear_45 rfl ?_
  refine zg_iload (q := 48) C dX8_isClear_46 rfl rfl ?_
  refine zg_iadd (q := 49) C dX8_isClear_48 rfl ?_
  refine zg_istore (q := 51) C dX8_isClear_49 (by decide) rfl ?_
  exact zg_mask [false, false, true, true, true, true, true, true, true] v
set_option maxRecDepth 100000 in
set_option maxHeartbeats 4000000 in
theorem zsX8_isClear_73 {E : Wd} {X : Mx} {d : Nat} {Q : Int32 → Hp → Prop} (C : zz_C E X YX8_isClear (d + 1) 0 0 (fun r h' => ∃ x : Int32, r = some (.int x) ∧ Q x h')) (x2 : Int32) (x3 : Int32) (x4 : Int32) (x5 : Int32) (x6 : Int32) (x8 : Int32) (s0 : Int32) (s1 : Int32) (h : Hp) (v : vcX8_isClear_73 E d (zkX8_isClear_51 E X) x2 x3 x4 x5 x6 x8 s0 s1 h Q) : GG E X 9 0 0 73 [none, none, some (.int x2), some (.int x3), some (.int x4), some (.int x5), some (.int x6), none, some (.int x8)] [.int s1, .int s0] h := by
  refine zg_iand (q := 74) C dX8_isClear_73 rfl ?_
  refine zg_istore (q := 76) C dX8_isClear_74 (by decide) rfl ?_
  refine zg_iload (q := 78) C dX8_isClear_76 rfl rfl ?_
  refine zg_iload (q := 80) C dX8_isClear_78 rfl rfl ?_
  refine zg_iload (q := 82) C dX8_isClear_80 rfl rfl ?_
  refine zg_imul (q := 83) C dX8_isClear_82 rfl ?_
  refine zg_iload (q := 85) C dX8_isClear_83 rfl rfl ?_
  refine zg_iadd (q := 86) C dX8_isClear_85 rfl ?_
  refine zg_iadd (q := 87) C dX8_isClear_86 rfl ?_
  refine zg_istore (q := 89) C dX8_isClear_87 (by decide) rfl ?_
  refine zg_goto (t := 51) C dX8_isClear_89 (by decide) ?_
  exact zg_mask [false, false, true, true, true, true, true, true, true] v
set_option maxRecDepth 100000 in
set_option maxHeartbeats 4000000 in
theorem zsX8_isClear_51 {E : Wd} {X : Mx} {d : Nat} {Q : Int32 → Hp → Prop} (C : zz_C E X YX8_isClear (d + 1) 0 0 (fun r h' => ∃ x : Int32, r = some (.int x) ∧ Q x h')) (x2 : Int32) (x3 : Int32) (x4 : Int32) (x5 : Int32) (x6 : Int32) (x7 : Int32) (x8 : Int32) (h : Hp) (v : vcX8_isClear_51 E d (zkX8_isClear_51 E X) x2 x3 x4 x5 x6 x7 x8 h Q) : GG E X 9 0 0 51 [none, none, some (.int x2), some (.int x3), some (.int x4), some (.int x5), some (.int x6), some (.int x7), some (.int x8)] [] h := by
  refine zg_iload (q := 53) C dX8_isClear_51 rfl rfl ?_
  refine zg_iload_n (q := 54) C dX8_isClear_53 rfl rfl ?_
  refine zg_icmp_eq (t := 92) (q := 57) C dX8_isClear_54 (by decide) rfl (fun c => ?_) (fun c => ?_)
  · have v := v.1 c
    refine zg_iload (q := 94) C dX8_isClear_92 rfl rfl ?_
    exact zg_zret C rfl dX8_isClear_94 ⟨Nat.le_refl _, Nat.le_refl _⟩ v.1 ⟨_, rfl, v.2⟩
  · have v := v.2 c
    refine zg_iload (q := 59) C dX8_isClear_57 rfl rfl ?_
    refine zg_iload_n (q := 60) C dX8_isClear_59 rfl rfl ?_
    refine zg_iload (q := 62) C dX8_isClear_60 rfl rfl ?_
    refine zg_cS2I (q := 65) C mX8_has tX8_has lmX8_164 rfl (Nat.le_of_ble_eq_true rfl) ⟨Nat.le_refl _, Nat.le_refl _⟩ dX8_isClear_62 rfl v (fun r2 h1 v => ?_)
    refine zg_if_ne (t := 72) (q := 68) C dX8_isClear_65 (by decide) rfl (fun c => ?_) (fun c => ?_)
    · have v := v.1 c
      refine zg_iconst (v := 0) (q := 73) C dX8_isClear_72 (by decide) rfl ?_
      exact zg_mask [false, false, true, true, true, true, true, false, true] (zsX8_isClear_73 C _ _ _ _ _ _ _ _ _ v)
    · have v := v.2 c
      refine zg_iconst (v := 1) (q := 69) C dX8_isClear_68 (by decide) rfl ?_
      refine zg_goto (t := 73) C dX8_isClear_69 (by decide) ?_
      exact zg_mask [false, false, true, true, true, true, true, false, true] (zsX8_isClear_73 C _ _ _ _ _ _ _ _ _ v)
theorem rnX8_isClear {E : Wd} {d : Nat} {a0 : Nat} {x1 : Int32} {x2 : Int32} {x3 : Int32} {h : Hp} {Q : Int32 → Hp → Prop} (k : ∀ (K51 : Int32 → Int32 → Int32 → Int32 → Int32 → Int32 → Int32 → Hp → Prop),(∀ (x2 : Int32) (x3 : Int32) (x4 : Int32) (x5 : Int32) (x6 : Int32) (x7 : Int32) (x8 : Int32) h, vcX8_isClear_51 E d K51 x2 x3 x4 x5 x6 x7 x8 h Q → K51 x2 x3 x4 x5 x6 x7 x8 h) → vcX8_isClear_0 E d K51 a0 x1 x2 x3 h Q) : OkI E YX8_isClear (d + 1) [.ref a0, .int x1, .int x2, .int x3] h Q :=
  zz_body2 (r := 5) mX8_isClear (zc_a (zc_i (zc_i (zc_i zc_n)))) (Nat.le_of_ble_eq_true rfl) (fun X C => zsX8_isClear_0 C a0 x1 x2 x3 h (k (zkX8_isClear_51 E X) (fun x2 x3 x4 x5 x6 x7 x8 h v => zsX8_isClear_51 C x2 x3 x4 x5 x6 x7 x8 h v)))
def vcX8_reaches_219 (E : Wd) (d : Nat) (x7 : Int32) (x9 : Int32) (h : Hp) (Q : Int32 → Hp → Prop) : Prop :=
  (¬ x7 = (2 : Int32) → mB 0 ∧ Q 0 h) ∧ (x7 = (2 : Int32) → (¬ x9 = (1 : Int32) → mB 0 ∧ Q 0 h) ∧ (x9 = (1 : Int32) → mB 1 ∧ Q 1 h))
def vcX8_reaches_309 (E : Wd) (d : Nat) (a0 : Nat) (x2 : Int32) (x3 : Int32) (x4 : Int32) (h : Hp) (Q : Int32 → Hp → Prop) : Prop :=
  isO h a0 8 ∧ OkI E YX8_isClear d [.ref a0, .int x2, .int x3, .int x4] h (fun r2 h1 => (r2 = (0 : Int32) → mB 0 ∧ Q 0 h1) ∧ (¬ r2 = (0 : Int32) → mB 1 ∧ Q 1 h1))
def vcX8_reaches_337 (E : Wd) (d : Nat) (x7 : Int32) (x9 : Int32) (h : Hp) (Q : Int32 → Hp → Prop) : Prop :=
  (¬ x7 = (0 : Int32) → mB 0 ∧ Q 0 h) ∧ (x7 = (0 : Int32) → (¬ x9 = (2 : Int32) → mB 0 ∧ Q 0 h) ∧ (x9 = (2 : Int32) → mB 1 ∧ Q 1 h))
def vcX8_reaches_384 (E : Wd) (d : Nat) (s0 : Int32) (s1 : Int32) (h : Hp) (Q : Int32 → Hp → Prop) : Prop :=
  (¬ s0 = s1 → mB 0 ∧ Q 0 h) ∧ (s0 = s1 → mB 1 ∧ Q 1 h)
def vcX8_reaches_369 (E : Wd) (d : Nat) (x5 : Int32) (x7 : Int32) (s0 : Int32) (s1 : Int32) (h : Hp) (Q : Int32 → Hp → Prop) : Prop :=
  (¬ s0 = s1 → mB 0 ∧ Q 0 h) ∧ (s0 = s1 → (x5 = (0 : Int32) → vcX8_reaches_384 E d x7 0 h Q) ∧ (¬ x5 = (0 : Int32) → vcX8_reaches_384 E d x7 1 h Q))
def vcX8_reaches_87 (E : Wd) (d : Nat) (a0 : Nat) (x1 : Int32) (x2 : Int32) (x3 : Int32) (x4 : Int32) (x5 : Int32) (x7 : Int32) (x8 : Int32) (x9 : Int32) (x10 : Int32) (s0 : Int32) (h : Hp) (Q : Int32 → Hp → Prop) : Prop :=
  okA h a0 8 4 ∧ okR E h (fA h a0 4) 0 ((7 : Int32) + x1) ∧ ((gA h (fA h a0 4) ((7 : Int32) + x1)) = (0 : Int32) → (¬ (x7 + x9) = (1 : Int32) → mB 0 ∧ Q 0 h) ∧ ((x7 + x9) = (1 : Int32) → mB 1 ∧ Q 1 h)) ∧ (¬ (gA h (fA h a0 4) ((7 : Int32) + x1)) = (0 : Int32) → ((gA h (fA h a0 4) ((7 : Int32) + x1)) = (1 : Int32) → (¬ x7 = (1 : Int32) → mB 0 ∧ Q 0 h) ∧ (x7 = (1 : Int32) → (¬ x9 = (1 : Int32) → mB 0 ∧ Q 0 h) ∧ (x9 = (1 : Int32) → mB 1 ∧ Q 1 h))) ∧ (¬ (gA h (fA h a0 4) ((7 : Int32) + x1)) = (1 : Int32) → ((gA h (fA h a0 4) ((7 : Int32) + x1)) = (2 : Int32) → ((1 : Int32) < x7 → mB 0 ∧ Q 0 h) ∧ (¬ (1 : Int32) < x7 → ((1 : Int32) < x9 → mB 0 ∧ Q 0 h) ∧ (¬ (1 : Int32) < x9 → ((x7 + x9) ≤ (0 : Int32) → mB 0 ∧ Q 0 h) ∧ (¬ (x7 + x9) ≤ (0 : Int32) → mB 1 ∧ Q 1 h)))) ∧ (¬ (gA h (fA h a0 4) ((7 : Int32) + x1)) = (2 : Int32) → ((gA h (fA h a0 4) ((7 : Int32) + x1)) = (3 : Int32) → (¬ x7 = (1 : Int32) → vcX8_reaches_219 E d x7 x9 h Q) ∧ (x7 = (1 : Int32) → (x9 = (2 : Int32) → mB 1 ∧ Q 1 h) ∧ (¬ x9 = (2 : Int32) → vcX8_reaches_219 E d x7 x9 h Q))) ∧ (¬ (gA h (fA h a0 4) ((7 : Int32) + x1)) = (3 : Int32) → ((gA h (fA h a0 4) ((7 : Int32) + x1)) = (4 : Int32) → (¬ x7 = (2 : Int32) → mB 0 ∧ Q 0 h) ∧ (x7 = (2 : Int32) → (¬ x9 = (2 : Int32) → mB 0 ∧ Q 0 h) ∧ (x9 = (2 : Int32) → mB 1 ∧ Q 1 h))) ∧ (¬ (gA h (fA h a0 4) ((7 : Int32) + x1)) = (4 : Int32) → ((gA h (fA h a0 4) ((7 : Int32) + x1)) = (5 : Int32) → (x10 = (0 : Int32) → mB 0 ∧ Q 0 h) ∧ (¬ x10 = (0 : Int32) → isO h a0 8 ∧ OkI E YX8_isClear d [.ref a0, .int x2, .int x3, .int x4] h (fun r2 h1 => (r2 = (0 : Int32) → mB 0 ∧ Q 0 h1) ∧ (¬ r2 = (0 : Int32) → mB 1 ∧ Q 1 h1)))) ∧ (¬ (gA h (fA h a0 4) ((7 : Int32) + x1)) = (5 : Int32) → ((gA h (fA h a0 4) ((7 : Int32) + x1)) = (6 : Int32) → (s0 = (0 : Int32) → mB 0 ∧ Q 0 h) ∧ (¬ s0 = (0 : Int32) → isO h a0 8 ∧ OkI E YX8_isClear d [.ref a0, .int x2, .int x3, .int x4] h (fun r4 h3 => (r4 = (0 : Int32) → mB 0 ∧ Q 0 h3) ∧ (¬ r4 = (0 : Int32) → mB 1 ∧ Q 1 h3)))) ∧ (¬ (gA h (fA h a0 4) ((7 : Int32) + x1)) = (6 : Int32) → ((gA h (fA h a0 4) ((7 : Int32) + x1)) = (7 : Int32) → (¬ x10 = (0 : Int32) → vcX8_reaches_309 E d a0 x2 x3 x4 h Q) ∧ (x10 = (0 : Int32) → (s0 = (0 : Int32) → mB 0 ∧ Q 0 h) ∧ (¬ s0 = (0 : Int32) → vcX8_reaches_309 E d a0 x2 x3 x4 h Q))) ∧ (¬ (gA h (fA h a0 4) ((7 : Int32) + x1)) = (7 : Int32) → ((gA h (fA h a0 4) ((7 : Int32) + x1)) = (8 : Int32) → (¬ x7 = (2 : Int32) → vcX8_reaches_337 E d x7 x9 h Q) ∧ (x7 = (2 : Int32) → (x9 = (0 : Int32) → mB 1 ∧ Q 1 h) ∧ (¬ x9 = (0 : Int32) → vcX8_reaches_337 E d x7 x9 h Q))) ∧ (¬ (gA h (fA h a0 4) ((7 : Int32) + x1)) = (8 : Int32) → isO h a0 8 ∧ OkI E YX8_isWhite d [.ref a0, .int x1] h (fun r6 h5 => (r6 = (0 : Int32) → vcX8_reaches_369 E d x5 x7 x8 ((-1)) h5 Q) ∧ (¬ r6 = (0 : Int32) → vcX8_reaches_369 E d x5 x7 x8 1 h5 Q)))))))))))
def vcX8_reaches_86 (E : Wd) (d : Nat) (a0 : Nat) (x1 : Int32) (x2 : Int32) (x3 : Int32) (x4 : Int32) (x5 : Int32) (x7 : Int32) (x8 : Int32) (x9 : Int32) (x10 : Int32) (h : Hp) (Q : Int32 → Hp → Prop) : Prop :=
  vcX8_reaches_87 E d a0 x1 x2 x3 x4 x5 x7 x8 x9 x10 0 h Q
def vcX8_reaches_68 (E : Wd) (d : Nat) (a0 : Nat) (x1 : Int32) (x2 : Int32) (x3 : Int32) (x4 : Int32) (x5 : Int32) (x7 : Int32) (x8 : Int32) (x9 : Int32) (s0 : Int32) (h : Hp) (Q : Int32 → Hp → Prop) : Prop :=
  (¬ x7 = x9 → vcX8_reaches_86 E d a0 x1 x2 x3 x4 x5 x7 x8 x9 s0 h Q) ∧ (x7 = x9 → (x7 ≤ (0 : Int32) → vcX8_reaches_86 E d a0 x1 x2 x3 x4 x5 x7 x8 x9 s0 h Q) ∧ (¬ x7 ≤ (0 : Int32) → vcX8_reaches_87 E d a0 x1 x2 x3 x4 x5 x7 x8 x9 s0 1 h Q))
def vcX8_reaches_60 (E : Wd) (d : Nat) (a0 : Nat) (x1 : Int32) (x2 : Int32) (x3 : Int32) (x4 : Int32) (x5 : Int32) (x7 : Int32) (x8 : Int32) (x9 : Int32) (s0 : Int32) (s1 : Int32) (h : Hp) (Q : Int32 → Hp → Prop) : Prop :=
  (s0 = s1 → vcX8_reaches_68 E d a0 x1 x2 x3 x4 x5 x7 x8 x9 0 h Q) ∧ (¬ s0 = s1 → vcX8_reaches_68 E d a0 x1 x2 x3 x4 x5 x7 x8 x9 1 h Q)
def vcX8_reaches_50 (E : Wd) (d : Nat) (a0 : Nat) (x1 : Int32) (x2 : Int32) (x3 : Int32) (x4 : Int32) (x5 : Int32) (x7 : Int32) (x8 : Int32) (x9 : Int32) (s0 : Int32) (h : Hp) (Q : Int32 → Hp → Prop) : Prop :=
  (¬ x9 = (0 : Int32) → vcX8_reaches_60 E d a0 x1 x2 x3 x4 x5 x7 x8 x9 s0 0 h Q) ∧ (x9 = (0 : Int32) → vcX8_reaches_60 E d a0 x1 x2 x3 x4 x5 x7 x8 x9 s0 1 h Q)
def vcX8_reaches_0 (E : Wd) (d : Nat) (a0 : Nat) (x1 : Int32) (x2 : Int32) (x3 : Int32) (x4 : Int32) (x5 : Int32) (h : Hp) (Q : Int32 → Hp → Prop) : Prop :=
  okA h a0 8 4 ∧ okR E h (fA h a0 4) 0 0 ∧ (¬ (gA h (fA h a0 4) 0) = (0 : Int32)) ∧ (¬ (gA h (fA h a0 4) 0) = (0 : Int32)) ∧ OkI E YX8_size d [.int ((x3 - x3 / (gA h (fA h a0 4) 0) * (gA h (fA h a0 4) 0)) - (x2 - x2 / (gA h (fA h a0 4) 0) * (gA h (fA h a0 4) 0)))] h (fun r2 h1 => (¬ (gA h (fA h a0 4) 0) = (0 : Int32)) ∧ (¬ (gA h (fA h a0 4) 0) = (0 : Int32)) ∧ OkI E YX8_size d [.int ((x3 / (gA h (fA h a0 4) 0)) - (x2 / (gA h (fA h a0 4) 0)))] h1 (fun r4 h3 => (¬ r2 = (0 : Int32) → vcX8_reaches_50 E d a0 x1 x2 x3 x4 x5 r2 ((x3 / (gA h (fA h a0 4) 0)) - (x2 / (gA h (fA h a0 4) 0))) r4 0 h3 Q) ∧ (r2 = (0 : Int32) → vcX8_reaches_50 E d a0 x1 x2 x3 x4 x5 r2 ((x3 / (gA h (fA h a0 4) 0)) - (x2 / (gA h (fA h a0 4) 0))) r4 1 h3 Q)))
set_option maxRecDepth 100000 in
set_option maxHeartbeats 4000000 in
theorem zsX8_reaches_219 {E : Wd} {X : Mx} {d : Nat} {Q : Int32 → Hp → Prop} (C : zz_C E X YX8_reaches (d + 1) 0 0 (fun r h' => ∃ x : Int32, r = some (.int x) ∧ Q x h')) (x7 : Int32) (x9 : Int32) (h : Hp) (v : vcX8_reaches_219 E d x7 x9 h Q) : GG E X 12 0 0 219 [none, none, none, none, none, none, none, some (.int x7), none, some (.int x9), none, none] [] h := by
  refine zg_iload (q := 221) C dX8_reaches_219 rfl rfl ?_
  refine zg_iconst (v := 2) (q := 222) C dX8_reaches_221 (by decide) rfl ?_
  refine zg_icmp_ne (t := 235) (q := 225) C dX8_reaches_222 (by decide) rfl (fun c => ?_) (fun c => ?_)
  · have v := v.1 c
    refine zg_iconst (v := 0) (q := 236) C dX8_reaches_235 (by decide) rfl ?_
    exact zg_zret C rfl dX8_reaches_236 ⟨Nat.le_refl _, Nat.le_refl _⟩ v.1 ⟨_, rfl, v.2⟩
  · have v := v.2 c
    refine zg_iload (q := 227) C dX8_reaches_225 rfl rfl ?_
    refine zg_iconst (v := 1) (q := 228) C dX8_reaches_227 (by decide) rfl ?_
    refine zg_icmp_ne (t := 235) (q := 231) C dX8_reaches_228 (by decide) rfl (fun c => ?_) (fun c => ?_)
    · have v := v.1 c
      refine zg_iconst (v := 0) (q := 236) C dX8_reaches_235 (by decide) rfl ?_
      exact zg_zret C rfl dX8_reaches_236 ⟨Nat.le_refl _, Nat.le_refl _⟩ v.1 ⟨_, rfl, v.2⟩
    · have v := v.2 c
      refine zg_iconst (v := 1) (q := 232) C dX8_reaches_231 (by decide) rfl ?_
      refine zg_goto (t := 236) C dX8_reaches_232 (by decide) ?_
      exact zg_zret C rfl dX8_reaches_236 ⟨Nat.le_refl _, Nat.le_refl _⟩ v.1 ⟨_, rfl, v.2⟩
set_option maxRecDepth 100000 in
set_option maxHeartbeats 4000000 in
theorem zsX8_reaches_309 {E : Wd} {X : Mx} {d : Nat} {Q : Int32 → Hp → Prop} (C : zz_C E X YX8_reaches (d + 1) 0 0 (fun r h' => ∃ x : Int32, r = some (.int x) ∧ Q x h')) (a0 : Nat) (x2 : Int32) (x3 : Int32) (x4 : Int32) (h : Hp) (v : vcX8_reaches_309 E d a0 x2 x3 x4 h Q) : GG E X 12 0 0 309 [some (.ref a0), none, some (.int x2), some (.int x3), some (.int x4), none, none, none, none, none, none, none] [] h := by
  refine zg_aload_n (q := 310) C dX8_reaches_309 rfl rfl ?_
  refine zg_iload_n (q := 311) C dX8_reaches_310 rfl rfl ?_
  refine zg_iload_n (q := 312) C dX8_reaches_311 rfl rfl ?_
  refine zg_iload (q := 314) C dX8_reaches_312 rfl rfl ?_
  refine zg_cV3I (q := 317) C mX8_isClear vX8_isClear lmX8_170 rfl (bX8).1 v.1 (Nat.le_of_ble_eq_true rfl) ⟨Nat.le_refl _, Nat.le_refl _⟩ dX8_reaches_314 rfl v.2 (fun r2 h1 v => ?_)
  refine zg_if_eq (t := 324) (q := 320) C dX8_reaches_317 (by decide) rfl (fun c => ?_) (fun c => ?_)
  · have v := v.1 c
    refine zg_iconst (v := 0) (q := 325) C dX8_reaches_324 (by decide) rfl ?_
    exact zg_zret C rfl dX8_reaches_325 ⟨Nat.le_refl _, Nat.le_refl _⟩ v.1 ⟨_, rfl, v.2⟩
  · have v := v.2 c
    refine zg_iconst (v := 1) (q := 321) C dX8_reaches_320 (by decide) rfl ?_
    refine zg_goto (t := 325) C dX8_reaches_321 (by decide) ?_
    exact zg_zret C rfl dX8_reaches_325 ⟨Nat.le_refl _, Nat.le_refl _⟩ v.1 ⟨_, rfl, v.2⟩
set_option maxRecDepth 100000 in
set_option maxHeartbeats 4000000 in
theorem zsX8_reaches_337 {E : Wd} {X : Mx} {d : Nat} {Q : Int32 → Hp → Prop} (C : zz_C E X YX8_reaches (d + 1) 0 0 (fun r h' => ∃ x : Int32, r = some (.int x) ∧ Q x h')) (x7 : Int32) (x9 : Int32) (h : Hp) (v : vcX8_reaches_337 E d x7 x9 h Q) : GG E X 12 0 0 337 [none, none, none, none, none, none, none, some (.int x7), none, some (.int x9), none, none] [] h := by
  refine zg_iload (q := 339) C dX8_reaches_337 rfl rfl ?_
  refine zg_if_ne (t := 352) (q := 342) C dX8_reaches_339 (by decide) rfl (fun c => ?_) (fun c => ?_)
  · have v := v.1 c
    refine zg_iconst (v := 0) (q := 353) C dX8_reaches_352 (by decide) rfl ?_
    exact zg_zret C rfl dX8_reaches_353 ⟨Nat.le_refl _, Nat.le_refl _⟩ v.1 ⟨_, rfl, v.2⟩
  · have v := v.2 c
    refine zg_iload (q := 344) C dX8_reaches_342 rfl rfl ?_
    refine zg_iconst (v := 2) (q := 345) C dX8_reaches_344 (by decide) rfl ?_
    refine zg_icmp_ne (t := 352) (q := 348) C dX8_reaches_345 (by decide) rfl (fun c => ?_) (fun c => ?_)
    · have v := v.1 c
      refine zg_iconst (v := 0) (q := 353) C dX8_reaches_352 (by decide) rfl ?_
      exact zg_zret C rfl dX8_reaches_353 ⟨Nat.le_refl _, Nat.le_refl _⟩ v.1 ⟨_, rfl, v.2⟩
    · have v := v.2 c
      refine zg_iconst (v := 1) (q := 349) C dX8_reaches_348 (by decide) rfl ?_
      refine zg_goto (t := 353) C dX8_reaches_349 (by decide) ?_
      exact zg_zret C rfl dX8_reaches_353 ⟨Nat.le_refl _, Nat.le_refl _⟩ v.1 ⟨_, rfl, v.2⟩
set_option maxRecDepth 100000 in
set_option maxHeartbeats 4000000 in
theorem zsX8_reaches_384 {E : Wd} {X : Mx} {d : Nat} {Q : Int32 → Hp → Prop} (C : zz_C E X YX8_reaches (d + 1) 0 0 (fun r h' => ∃ x : Int32, r = some (.int x) ∧ Q x h')) (s0 : Int32) (s1 : Int32) (h : Hp) (v : vcX8_reaches_384 E d s0 s1 h Q) : GG E X 12 0 0 384 [none, none, none, none, none, none, none, none, none, none, none, none] [.int s1, .int s0] h := by
  refine zg_icmp_ne (t := 391) (q := 387) C dX8_reaches_384 (by decide) rfl (fun c => ?_) (fun c => ?_)
  · have v := v.1 c
    refine zg_iconst (v := 0) (q := 392) C dX8_reaches_391 (by decide) rfl ?_
    exact zg_zret C rfl dX8_reaches_392 ⟨Nat.le_refl _, Nat.le_refl _⟩ v.1 ⟨_, rfl, v.2⟩
  · have v := v.2 c
    refine zg_iconst (v := 1) (q := 388) C dX8_reaches_387 (by decide) rfl ?_
    refine zg_goto (t := 392) C dX8_reaches_388 (by decide) ?_
    exact zg_zret C rfl dX8_reaches_392 ⟨Nat.le_refl _, Nat.le_refl _⟩ v.1 ⟨_, rfl, v.2⟩
set_option maxRecDepth 100000 in
set_option maxHeartbeats 4000000 in
theorem zsX8_reaches_369 {E : Wd} {X : Mx} {d : Nat} {Q : Int32 → Hp → Prop} (C : zz_C E X YX8_reaches (d + 1) 0 0 (fun r h' => ∃ x : Int32, r = some (.int x) ∧ Q x h')) (x5 : Int32) (x7 : Int32) (s0 : Int32) (s1 : Int32) (h : Hp) (v : vcX8_reaches_369 E d x5 x7 s0 s1 h Q) : GG E X 12 0 0 369 [none, none, none, none, none, some (.int x5), none, some (.int x7), none, none, none, none] [.int s1, .int s0] h := by
  refine zg_icmp_ne (t := 391) (q := 372) C dX8_reaches_369 (by decide) rfl (fun c => ?_) (fun c => ?_)
  · have v := v.1 c
    refine zg_iconst (v := 0) (q := 392) C dX8_reaches_391 (by decide) rfl ?_
    exact zg_zret C rfl dX8_reaches_392 ⟨Nat.le_refl _, Nat.le_refl _⟩ v.1 ⟨_, rfl, v.2⟩
  · have v := v.2 c
    refine zg_iload (q := 374) C dX8_reaches_372 rfl rfl ?_
    refine zg_iload (q := 376) C dX8_reaches_374 rfl rfl ?_
    refine zg_if_eq (t := 383) (q := 379) C dX8_reaches_376 (by decide) rfl (fun c => ?_) (fun c => ?_)
    · have v := v.1 c
      refine zg_iconst (v := 0) (q := 384) C dX8_reaches_383 (by decide) rfl ?_
      exact zg_mask [false, false, false, false, false, false, false, false, false, false, false, false] (zsX8_reaches_384 C _ _ _ v)
    · have v := v.2 c
      refine zg_iconst (v := 1) (q := 380) C dX8_reaches_379 (by decide) rfl ?_
      refine zg_goto (t := 384) C dX8_reaches_380 (by decide) ?_
      exact zg_mask [false, false, false, false, false, false, false, false, false, false, false, false] (zsX8_reaches_384 C _ _ _ v)
set_option maxRecDepth 100000 in
set_option maxHeartbeats 4000000 in
theorem zsX8_reaches_87 {E : Wd} {X : Mx} {d : Nat} {Q : Int32 → Hp → Prop} (C : zz_C E X YX8_reaches (d + 1) 0 0 (fun r h' => ∃ x : Int32, r = some (.int x) ∧ Q x h')) (a0 : Nat) (x1 : Int32) (x2 : Int32) (x3 : Int32) (x4 : Int32) (x5 : Int32) (x7 : Int32) (x8 : Int32) (x9 : Int32) (x10 : Int32) (s0 : Int32) (h : Hp) (v : vcX8_reaches_87 E d a0 x1 x2 x3 x4 x5 x7 x8 x9 x10 s0 h Q) : GG E X 12 0 0 87 [some (.ref a0), some (.int x1), some (.int x2), some (.int x3), some (.int x4), some (.int x5), none, some (.int x7), some (.int x8), some (.int x9), some (.int x10), none] [.int s0] h := by
  refine zg_istore (q := 89) C dX8_reaches_87 (by decide) rfl ?_
  refine zg_aload_n (q := 90) C dX8_reaches_89 rfl rfl ?_
  refine zg_get (j := 4) (q := 93) C bX8 (by decide) lkX8_13 dX8_reaches_90 rfl (okA.get v.1) ?_
  have v := v.2
  refine zg_bipush (v := 7) (q := 95) C dX8_reaches_93 (by decide) rfl ?_
  refine zg_iload_n (q := 96) C dX8_reaches_95 rfl rfl ?_
  refine zg_iadd (q := 97) C dX8_reaches_96 rfl ?_
  refine zg_iald (q := 98) C dX8_reaches_97 rfl v.1 ?_
  have v := v.2
  by_cases c0 : (gA h (fA h a0 4) ((7 : Int32) + x1)) = (0 : Int32)
  · have v := v.1 c0
    refine zg_tabC (t := 148) (off := 50) C dX8_reaches_98 c0 (by decide) (by decide) (by decide) (by decide) ?_
    refine zg_iload (q := 150) C dX8_reaches_148 rfl rfl ?_
    refine zg_iload (q := 152) C dX8_reaches_150 rfl rfl ?_
    refine zg_iadd (q := 153) C dX8_reaches_152 rfl ?_
    refine zg_iconst (v := 1) (q := 154) C dX8_reaches_153 (by decide) rfl ?_
    refine zg_icmp_ne (t := 161) (q := 157) C dX8_reaches_154 (by decide) rfl (fun c => ?_) (fun c => ?_)
    · have v := v.1 c
      refine zg_iconst (v := 0) (q := 162) C dX8_reaches_161 (by decide) rfl ?_
      exact zg_zret C rfl dX8_reaches_162 ⟨Nat.le_refl _, Nat.le_refl _⟩ v.1 ⟨_, rfl, v.2⟩
    · have v := v.2 c
      refine zg_iconst (v := 1) (q := 158) C dX8_reaches_157 (by decide) rfl ?_
      refine zg_goto (t := 162) C dX8_reaches_158 (by decide) ?_
      exact zg_zret C rfl dX8_reaches_162 ⟨Nat.le_refl _, Nat.le_refl _⟩ v.1 ⟨_, rfl, v.2⟩
  · have v := v.2 c0
    by_cases c1 : (gA h (fA h a0 4) ((7 : Int32) + x1)) = (1 : Int32)
    · have v := v.1 c1
      refine zg_tabC (t := 163) (off := 65) C dX8_reaches_98 c1 (by decide) (by decide) (by decide) (by decide) ?_
      refine zg_iload (q := 165) C dX8_reaches_163 rfl rfl ?_
      refine zg_iconst (v := 1) (q := 166) C dX8_reaches_165 (by decide) rfl ?_
      refine zg_icmp_ne (t := 179) (q := 169) C dX8_reaches_166 (by decide) rfl (fun c => ?_) (fun c => ?_)
      · have v := v.1 c
        refine zg_iconst (v := 0) (q := 180) C dX8_reaches_179 (by decide) rfl ?_
        exact zg_zret C rfl dX8_reaches_180 ⟨Nat.le_refl _, Nat.le_refl _⟩ v.1 ⟨_, rfl, v.2⟩
      · have v := v.2 c
        refine zg_iload (q := 171) C dX8_reaches_169 rfl rfl ?_
        refine zg_iconst (v := 1) (q := 172) C dX8_reaches_171 (by decide) rfl ?_
        refine zg_icmp_ne (t := 179) (q := 175) C dX8_reaches_172 (by decide) rfl (fun c => ?_) (fun c => ?_)
        · have v := v.1 c
          refine zg_iconst (v := 0) (q := 180) C dX8_reaches_179 (by decide) rfl ?_
          exact zg_zret C rfl dX8_reaches_180 ⟨Nat.le_refl _, Nat.le_refl _⟩ v.1 ⟨_, rfl, v.2⟩
        · have v := v.2 c
          refine zg_iconst (v := 1) (q := 176) C dX8_reaches_175 (by decide) rfl ?_
          refine zg_goto (t := 180) C dX8_reaches_176 (by decide) ?_
          exact zg_zret C rfl dX8_reaches_180 ⟨Nat.le_refl _, Nat.le_refl _⟩ v.1 ⟨_, rfl, v.2⟩
    · have v := v.2 c1
      by_cases c2 : (gA h (fA h a0 4) ((7 : Int32) + x1)) = (2 : Int32)
      · have v := v.1 c2
        refine zg_tabC (t := 181) (off := 83) C dX8_reaches_98 c2 (by decide) (by decide) (by decide) (by decide) ?_
        refine zg_iload (q := 183) C dX8_reaches_181 rfl rfl ?_
        refine zg_iconst (v := 1) (q := 184) C dX8_reaches_183 (by decide) rfl ?_
        refine zg_icmp_gt (t := 205) (q := 187) C dX8_reaches_184 (by decide) rfl (fun c => ?_) (fun c => ?_)
        · have v := v.1 c
          refine zg_iconst (v := 0) (q := 206) C dX8_reaches_205 (by decide) rfl ?_
          exact zg_zret C rfl dX8_reaches_206 ⟨Nat.le_refl _, Nat.le_refl _⟩ v.1 ⟨_, rfl, v.2⟩
        · have v := v.2 c
          refine zg_iload (q := 189) C dX8_reaches_187 rfl rfl ?_
          refine zg_iconst (v := 1) (q := 190) C dX8_reaches_189 (by decide) rfl ?_
          refine zg_icmp_gt (t := 205) (q := 193) C dX8_reaches_190 (by decide) rfl (fun c => ?_) (fun c => ?_)
          · have v := v.1 c
            refine zg_iconst (v := 0) (q := 206) C dX8_reaches_205 (by decide) rfl ?_
            exact zg_zret C rfl dX8_reaches_206 ⟨Nat.le_refl _, Nat.le_refl _⟩ v.1 ⟨_, rfl, v.2⟩
          · have v := v.2 c
            refine zg_iload (q := 195) C dX8_reaches_193 rfl rfl ?_
            refine zg_iload (q := 197) C dX8_reaches_195 rfl rfl ?_
            refine zg_iadd (q := 198) C dX8_reaches_197 rfl ?_
            refine zg_if_le (t := 205) (q := 201) C dX8_reaches_198 (by decide) rfl (fun c => ?_) (fun c => ?_)
            · have v := v.1 c
              refine zg_iconst (v := 0) (q := 206) C dX8_reaches_205 (by decide) rfl ?_
              exact zg_zret C rfl dX8_reaches_206 ⟨Nat.le_refl _, Nat.le_refl _⟩ v.1 ⟨_, rfl, v.2⟩
            · have v := v.2 c
              refine zg_iconst (v := 1) (q := 202) C dX8_reaches_201 (by decide) rfl ?_
              refine zg_goto (t := 206) C dX8_reaches_202 (by decide) ?_
              exact zg_zret C rfl dX8_reaches_206 ⟨Nat.le_refl _, Nat.le_refl _⟩ v.1 ⟨_, rfl, v.2⟩
      · have v := v.2 c2
        by_cases c3 : (gA h (fA h a0 4) ((7 : Int32) + x1)) = (3 : Int32)
        · have v := v.1 c3
          refine zg_tabC (t := 207) (off := 109) C dX8_reaches_98 c3 (by decide) (by decide) (by decide) (by decide) ?_
          refine zg_iload (q := 209) C dX8_reaches_207 rfl rfl ?_
          refine zg_iconst (v := 1) (q := 210) C dX8_reaches_209 (by decide) rfl ?_
          refine zg_icmp_ne (t := 219) (q := 213) C dX8_reaches_210 (by decide) rfl (fun c => ?_) (fun c => ?_)
          · have v := v.1 c
            exact zg_mask [false, false, false, false, false, false, false, true, false, true, false, false] (zsX8_reaches_219 C _ _ _ v)
          · have v := v.2 c
            refine zg_iload (q := 215) C dX8_reaches_213 rfl rfl ?_
            refine zg_iconst (v := 2) (q := 216) C dX8_reaches_215 (by decide) rfl ?_
            refine zg_icmp_eq (t := 231) (q := 219) C dX8_reaches_216 (by decide) rfl (fun c => ?_) (fun c => ?_)
            · have v := v.1 c
              refine zg_iconst (v := 1) (q := 232) C dX8_reaches_231 (by decide) rfl ?_
              refine zg_goto (t := 236) C dX8_reaches_232 (by decide) ?_
              exact zg_zret C rfl dX8_reaches_236 ⟨Nat.le_refl _, Nat.le_refl _⟩ v.1 ⟨_, rfl, v.2⟩
            · have v := v.2 c
              exact zg_mask [false, false, false, false, false, false, false, true, false, true, false, false] (zsX8_reaches_219 C _ _ _ v)
        · have v := v.2 c3
          by_cases c4 : (gA h (fA h a0 4) ((7 : Int32) + x1)) = (4 : Int32)
          · have v := v.1 c4
            refine zg_tabC (t := 237) (off := 139) C dX8_reaches_98 c4 (by decide) (by decide) (by decide) (by decide) ?_
            refine zg_iload (q := 239) C dX8_reaches_237 rfl rfl ?_
            refine zg_iconst (v := 2) (q := 240) C dX8_reaches_239 (by decide) rfl ?_
            refine zg_icmp_ne (t := 253) (q := 243) C dX8_reaches_240 (by decide) rfl (fun c => ?_) (fun c => ?_)
            · have v := v.1 c
              refine zg_iconst (v := 0) (q := 254) C dX8_reaches_253 (by decide) rfl ?_
              exact zg_zret C rfl dX8_reaches_254 ⟨Nat.le_refl _, Nat.le_refl _⟩ v.1 ⟨_, rfl, v.2⟩
            · have v := v.2 c
              refine zg_iload (q := 245) C dX8_reaches_243 rfl rfl ?_
              refine zg_iconst (v := 2) (q := 246) C dX8_reaches_245 (by decide) rfl ?_
              refine zg_icmp_ne (t := 253) (q := 249) C dX8_reaches_246 (by decide) rfl (fun c => ?_) (fun c => ?_)
              · have v := v.1 c
                refine zg_iconst (v := 0) (q := 254) C dX8_reaches_253 (by decide) rfl ?_
                exact zg_zret C rfl dX8_reaches_254 ⟨Nat.le_refl _, Nat.le_refl _⟩ v.1 ⟨_, rfl, v.2⟩
              · have v := v.2 c
                refine zg_iconst (v := 1) (q := 250) C dX8_reaches_249 (by decide) rfl ?_
                refine zg_goto (t := 254) C dX8_reaches_250 (by decide) ?_
                exact zg_zret C rfl dX8_reaches_254 ⟨Nat.le_refl _, Nat.le_refl _⟩ v.1 ⟨_, rfl, v.2⟩
          · have v := v.2 c4
            by_cases c5 : (gA h (fA h a0 4) ((7 : Int32) + x1)) = (5 : Int32)
            · have v := v.1 c5
              refine zg_tabC (t := 255) (off := 157) C dX8_reaches_98 c5 (by decide) (by decide) (by decide) (by decide) ?_
              refine zg_iload (q := 257) C dX8_reaches_255 rfl rfl ?_
              refine zg_if_eq (t := 275) (q := 260) C dX8_reaches_257 (by decide) rfl (fun c => ?_) (fun c => ?_)
              · have v := v.1 c
                refine zg_iconst (v := 0) (q := 276) C dX8_reaches_275 (by decide) rfl ?_
                exact zg_zret C rfl dX8_reaches_276 ⟨Nat.le_refl _, Nat.le_refl _⟩ v.1 ⟨_, rfl, v.2⟩
              · have v := v.2 c
                refine zg_aload_n (q := 261) C dX8_reaches_260 rfl rfl ?_
                refine zg_iload_n (q := 262) C dX8_reaches_261 rfl rfl ?_
                refine zg_iload_n (q := 263) C dX8_reaches_262 rfl rfl ?_
                refine zg_iload (q := 265) C dX8_reaches_263 rfl rfl ?_
                refine zg_cV3I (q := 268) C mX8_isClear vX8_isClear lmX8_170 rfl (bX8).1 v.1 (Nat.le_of_ble_eq_true rfl) ⟨Nat.le_refl _, Nat.le_refl _⟩ dX8_reaches_265 rfl v.2 (fun r2 h1 v => ?_)
                refine zg_if_eq (t := 275) (q := 271) C dX8_reaches_268 (by decide) rfl (fun c => ?_) (fun c => ?_)
                · have v := v.1 c
                  refine zg_iconst (v := 0) (q := 276) C dX8_reaches_275 (by decide) rfl ?_
                  exact zg_zret C rfl dX8_reaches_276 ⟨Nat.le_refl _, Nat.le_refl _⟩ v.1 ⟨_, rfl, v.2⟩
                · have v := v.2 c
                  refine zg_iconst (v := 1) (q := 272) C dX8_reaches_271 (by decide) rfl ?_
                  refine zg_goto (t := 276) C dX8_reaches_272 (by decide) ?_
                  exact zg_zret C rfl dX8_reaches_276 ⟨Nat.le_refl _, Nat.le_refl _⟩ v.1 ⟨_, rfl, v.2⟩
            · have v := v.2 c5
              by_cases c6 : (gA h (fA h a0 4) ((7 : Int32) + x1)) = (6 : Int32)
              · have v := v.1 c6
                refine zg_tabC (t := 277) (off := 179) C dX8_reaches_98 c6 (by decide) (by decide) (by decide) (by decide) ?_
                refine zg_iload (q := 279) C dX8_reaches_277 rfl rfl ?_
                refine zg_if_eq (t := 297) (q := 282) C dX8_reaches_279 (by decide) rfl (fun c => ?_) (fun c => ?_)
                · have v := v.1 c
                  refine zg_iconst (v := 0) (q := 298) C dX8_reaches_297 (by decide) rfl ?_
                  exact zg_zret C rfl dX8_reaches_298 ⟨Nat.le_refl _, Nat.le_refl _⟩ v.1 ⟨_, rfl, v.2⟩
                · have v := v.2 c
                  refine zg_aload_n (q := 283) C dX8_reaches_282 rfl rfl ?_
                  refine zg_iload_n (q := 284) C dX8_reaches_283 rfl rfl ?_
                  refine zg_iload_n (q := 285) C dX8_reaches_284 rfl rfl ?_
                  refine zg_iload (q := 287) C dX8_reaches_285 rfl rfl ?_
                  refine zg_cV3I (q := 290) C mX8_isClear vX8_isClear lmX8_170 rfl (bX8).1 v.1 (Nat.le_of_ble_eq_true rfl) ⟨Nat.le_refl _, Nat.le_refl _⟩ dX8_reaches_287 rfl v.2 (fun r4 h3 v => ?_)
                  refine zg_if_eq (t := 297) (q := 293) C dX8_reaches_290 (by decide) rfl (fun c => ?_) (fun c => ?_)
                  · have v := v.1 c
                    refine zg_iconst (v := 0) (q := 298) C dX8_reaches_297 (by decide) rfl ?_
                    exact zg_zret C rfl dX8_reaches_298 ⟨Nat.le_refl _, Nat.le_refl _⟩ v.1 ⟨_, rfl, v.2⟩
                  · have v := v.2 c
                    refine zg_iconst (v := 1) (q := 294) C dX8_reaches_293 (by decide) rfl ?_
                    refine zg_goto (t := 298) C dX8_reaches_294 (by decide) ?_
                    exact zg_zret C rfl dX8_reaches_298 ⟨Nat.le_refl _, Nat.le_refl _⟩ v.1 ⟨_, rfl, v.2⟩
              · have v := v.2 c6
                by_cases c7 : (gA h (fA h a0 4) ((7 : Int32) + x1)) = (7 : Int32)
                · have v := v.1 c7
                  refine zg_tabC (t := 299) (off := 201) C dX8_reaches_98 c7 (by decide) (by decide) (by decide) (by decide) ?_
                  refine zg_iload (q := 301) C dX8_reaches_299 rfl rfl ?_
                  refine zg_if_ne (t := 309) (q := 304) C dX8_reaches_301 (by decide) rfl (fun c => ?_) (fun c => ?_)
                  · have v := v.1 c
                    exact zg_mask [true, false, true, true, true, false, false, false, false, false, false, false] (zsX8_reaches_309 C _ _ _ _ _ v)
                  · have v := v.2 c
                    refine zg_iload (q := 306) C dX8_reaches_304 rfl rfl ?_
                    refine zg_if_eq (t := 324) (q := 309) C dX8_reaches_306 (by decide) rfl (fun c => ?_) (fun c => ?_)
                    · have v := v.1 c
                      refine zg_iconst (v := 0) (q := 325) C dX8_reaches_324 (by decide) rfl ?_
                      exact zg_zret C rfl dX8_reaches_325 ⟨Nat.le_refl _, Nat.le_refl _⟩ v.1 ⟨_, rfl, v.2⟩
                    · have v := v.2 c
                      exact zg_mask [true, false, true, true, true, false, false, false, false, false, false, false] (zsX8_reaches_309 C _ _ _ _ _ v)
                · have v := v.2 c7
                  by_cases c8 : (gA h (fA h a0 4) ((7 : Int32) + x1)) = (8 : Int32)
                  · have v := v.1 c8
                    refine zg_tabC (t := 326) (off := 228) C dX8_reaches_98 c8 (by decide) (by decide) (by decide) (by decide) ?_
                    refine zg_iload (q := 328) C dX8_reaches_326 rfl rfl ?_
                    refine zg_iconst (v := 2) (q := 329) C dX8_reaches_328 (by decide) rfl ?_
                    refine zg_icmp_ne (t := 337) (q := 332) C dX8_reaches_329 (by decide) rfl (fun c => ?_) (fun c => ?_)
                    · have v := v.1 c
                      exact zg_mask [false, false, false, false, false, false, false, true, false, true, false, false] (zsX8_reaches_337 C _ _ _ v)
                    · have v := v.2 c
                      refine zg_iload (q := 334) C dX8_reaches_332 rfl rfl ?_
                      refine zg_if_eq (t := 348) (q := 337) C dX8_reaches_334 (by decide) rfl (fun c => ?_) (fun c => ?_)
                      · have v := v.1 c
                        refine zg_iconst (v := 1) (q := 349) C dX8_reaches_348 (by decide) rfl ?_
                        refine zg_goto (t := 353) C dX8_reaches_349 (by decide) ?_
                        exact zg_zret C rfl dX8_reaches_353 ⟨Nat.le_refl _, Nat.le_refl _⟩ v.1 ⟨_, rfl, v.2⟩
                      · have v := v.2 c
                        exact zg_mask [false, false, false, false, false, false, false, true, false, true, false, false] (zsX8_reaches_337 C _ _ _ v)
                  · have v := v.2 c8
                    refine zg_tabD (t := 354) (cnt := 9) C dX8_reaches_98 (fun j hj => by match j, hj with | 0, _ => exact c0 | 1, _ => exact c1 | 2, _ => exact c2 | 3, _ => exact c3 | 4, _ => exact c4 | 5, _ => exact c5 | 6, _ => exact c6 | 7, _ => exact c7 | 8, _ => exact c8) rfl (by decide) ?_
                    refine zg_iload (q := 356) C dX8_reaches_354 rfl rfl ?_
                    refine zg_aload_n (q := 357) C dX8_reaches_356 rfl rfl ?_
                    refine zg_iload_n (q := 358) C dX8_reaches_357 rfl rfl ?_
                    refine zg_cV1I (q := 361) C mX8_isWhite vX8_isWhite lmX8_158 rfl (bX8).1 v.1 (Nat.le_of_ble_eq_true rfl) ⟨Nat.le_refl _, Nat.le_refl _⟩ dX8_reaches_358 rfl v.2 (fun r6 h5 v => ?_)
                    refine zg_if_eq (t := 368) (q := 364) C dX8_reaches_361 (by decide) rfl (fun c => ?_) (fun c => ?_)
                    · have v := v.1 c
                      refine zg_iconst (v := (-1)) (q := 369) C dX8_reaches_368 (by decide) rfl ?_
                      exact zg_mask [false, false, false, false, false, true, false, true, false, false, false, false] (zsX8_reaches_369 C _ _ _ _ _ v)
                    · have v := v.2 c
                      refine zg_iconst (v := 1) (q := 365) C dX8_reaches_364 (by decide) rfl ?_
                      refine zg_goto (t := 369) C dX8_reaches_365 (by decide) ?_
                      exact zg_mask [false, false, false, false, false, true, false, true, false, false, false, false] (zsX8_reaches_369 C _ _ _ _ _ v)
set_option maxRecDepth 100000 in
set_option maxHeartbeats 4000000 in
theorem zsX8_reaches_86 {E : Wd} {X : Mx} {d : Nat} {Q : Int32 → Hp → Prop} (C : zz_C E X YX8_reaches (d + 1) 0 0 (fun r h' => ∃ x : Int32, r = some (.int x) ∧ Q x h')) (a0 : Nat) (x1 : Int32) (x2 : Int32) (x3 : Int32) (x4 : Int32) (x5 : Int32) (x7 : Int32) (x8 : Int32) (x9 : Int32) (x10 : Int32) (h : Hp) (v : vcX8_reaches_86 E d a0 x1 x2 x3 x4 x5 x7 x8 x9 x10 h Q) : GG E X 12 0 0 86 [some (.ref a0), some (.int x1), some (.int x2), some (.int x3), some (.int x4), some (.int x5), none, some (.int x7), some (.int x8), some (.int x9), some (.int x10), none] [] h := by
  refine zg_iconst (v := 0) (q := 87) C dX8_reaches_86 (by decide) rfl ?_
  exact zg_mask [true, true, true, true, true, true, false, true, true, true, true, false] (zsX8_reaches_87 C _ _ _ _ _ _ _ _ _ _ _ _ v)
set_option maxRecDepth 100000 in
set_option maxHeartbeats 4000000 in
theorem zsX8_reaches_68 {E : Wd} {X : Mx} {d : Nat} {Q : Int32 → Hp → Prop} (C : zz_C E X YX8_reaches (d + 1) 0 0 (fun r h' => ∃ x : Int32, r = some (.int x) ∧ Q x h')) (a0 : Nat) (x1 : Int32) (x2 : Int32) (x3 : Int32) (x4 : Int32) (x5 : Int32) (x7 : Int32) (x8 : Int32) (x9 : Int32) (s0 : Int32) (h : Hp) (v : vcX8_reaches_68 E d a0 x1 x2 x3 x4 x5 x7 x8 x9 s0 h Q) : GG E X 12 0 0 68 [some (.ref a0), some (.int x1), some (.int x2), some (.int x3), some (.int x4), some (.int x5), none, some (.int x7), some (.int x8), some (.int x9), none, none] [.int s0] h := by
  refine zg_istore (q := 70) C dX8_reaches_68 (by decide) rfl ?_
  refine zg_iload (q := 72) C dX8_reaches_70 rfl rfl ?_
  refine zg_iload (q := 74) C dX8_reaches_72 rfl rfl ?_
  refine zg_icmp_ne (t := 86) (q := 77) C dX8_reaches_74 (by decide) rfl (fun c => ?_) (fun c => ?_)
  · have v := v.1 c
    exact zg_mask [true, true, true, true, true, true, false, true, true, true, true, false] (zsX8_reaches_86 C _ _ _ _ _ _ _ _ _ _ _ v)
  · have v := v.2 c
    refine zg_iload (q := 79) C dX8_reaches_77 rfl rfl ?_
    refine zg_if_le (t := 86) (q := 82) C dX8_reaches_79 (by decide) rfl (fun c => ?_) (fun c => ?_)
    · have v := v.1 c
      exact zg_mask [true, true, true, true, true, true, false, true, true, true, true, false] (zsX8_reaches_86 C _ _ _ _ _ _ _ _ _ _ _ v)
    · have v := v.2 c
      refine zg_iconst (v := 1) (q := 83) C dX8_reaches_82 (by decide) rfl ?_
      refine zg_goto (t := 87) C dX8_reaches_83 (by decide) ?_
      exact zg_mask [true, true, true, true, true, true, false, true, true, true, true, false] (zsX8_reaches_87 C _ _ _ _ _ _ _ _ _ _ _ _ v)
set_option maxRecDepth 100000 in
set_option maxHeartbeats 4000000 in
theorem zsX8_reaches_60 {E : Wd} {X : Mx} {d : Nat} {Q : Int32 → Hp → Prop} (C : zz_C E X YX8_reaches (d + 1) 0 0 (fun r h' => ∃ x : Int32, r = some (.int x) ∧ Q x h')) (a0 : Nat) (x1 : Int32) (x2 : Int32) (x3 : Int32) (x4 : Int32) (x5 : Int32) (x7 : Int32) (x8 : Int32) (x9 : Int32) (s0 : Int32) (s1 : Int32) (h : Hp) (v : vcX8_reaches_60 E d a0 x1 x2 x3 x4 x5 x7 x8 x9 s0 s1 h Q) : GG E X 12 0 0 60 [some (.ref a0), some (.int x1), some (.int x2), some (.int x3), some (.int x4), some (.int x5), none, some (.int x7), some (.int x8), some (.int x9), none, none] [.int s1, .int s0] h := by
  refine zg_icmp_eq (t := 67) (q := 63) C dX8_reaches_60 (by decide) rfl (fun c => ?_) (fun c => ?_)
  · have v := v.1 c
    refine zg_iconst (v := 0) (q := 68) C dX8_reaches_67 (by decide) rfl ?_
    exact zg_mask [true, true, true, true, true, true, false, true, true, true, false, false] (zsX8_reaches_68 C _ _ _ _ _ _ _ _ _ _ _ v)
  · have v := v.2 c
    refine zg_iconst (v := 1) (q := 64) C dX8_reaches_63 (by decide) rfl ?_
    refine zg_goto (t := 68) C dX8_reaches_64 (by decide) ?_
    exact zg_mask [true, true, true, true, true, true, false, true, true, true, false, false] (zsX8_reaches_68 C _ _ _ _ _ _ _ _ _ _ _ v)
set_option maxRecDepth 100000 in
set_option maxHeartbeats 4000000 in
theorem zsX8_reaches_50 {E : Wd} {X : Mx} {d : Nat} {Q : Int32 → Hp → Prop} (C : zz_C E X YX8_reaches (d + 1) 0 0 (fun r h' => ∃ x : Int32, r = some (.int x) ∧ Q x h')) (a0 : Nat) (x1 : Int32) (x2 : Int32) (x3 : Int32) (x4 : Int32) (x5 : Int32) (x7 : Int32) (x8 : Int32) (x9 : Int32) (s0 : Int32) (h : Hp) (v : vcX8_reaches_50 E d a0 x1 x2 x3 x4 x5 x7 x8 x9 s0 h Q) : GG E X 12 0 0 50 [some (.ref a0), some (.int x1), some (.int x2), some (.int x3), some (.int x4), some (.int x5), none, some (.int x7), some (.int x8), some (.int x9), none, none] [.int s0] h := by
  refine zg_iload (q := 52) C dX8_reaches_50 rfl rfl ?_
  refine zg_if_ne (t := 59) (q := 55) C dX8_reaches_52 (by decide) rfl (fun c => ?_) (fun c => ?_)
  · have v := v.1 c
    refine zg_iconst (v := 0) (q := 60) C dX8_reaches_59 (by decide) rfl ?_
    exact zg_mask [true, true, true, true, true, true, false, true, true, true, false, false] (zsX8_reaches_60 C _ _ _ _ _ _ _ _ _ _ _ _ v)
  · have v := v.2 c
    refine zg_iconst (v := 1) (q := 56) C dX8_reaches_55 (by decide) rfl ?_
    refine zg_goto (t := 60) C dX8_reaches_56 (by decide) ?_
    exact zg_mask [true, true, true, true, true, true, false, true, true, true, false, false] (zsX8_reaches_60 C _ _ _ _ _ _ _ _ _ _ _ _ v)
set_option maxRecDepth 100000 in
set_option maxHeartbeats 4000000 in
theorem zsX8_reaches_0 {E : Wd} {X : Mx} {d : Nat} {Q : Int32 → Hp → Prop} (C : zz_C E X YX8_reaches (d + 1) 0 0 (fun r h' => ∃ x : Int32, r = some (.int x) ∧ Q x h')) (a0 : Nat) (x1 : Int32) (x2 : Int32) (x3 : Int32) (x4 : Int32) (x5 : Int32) (h : Hp) (v : vcX8_reaches_0 E d a0 x1 x2 x3 x4 x5 h Q) : GG E X 12 0 0 0 [some (.ref a0), some (.int x1), some (.int x2), some (.int x3), some (.int x4), some (.int x5), none, none, none, none, none, none] [] h := by
  refine zg_aload_n (q := 1) C dX8_reaches_0 rfl rfl ?_
  refine zg_get (j := 4) (q := 4) C bX8 (by decide) lkX8_13 dX8_reaches_1 rfl (okA.get v.1) ?_
  have v := v.2
  refine zg_iconst (v := 0) (q := 5) C dX8_reaches_4 (by decide) rfl ?_
  refine zg_iald (q := 6) C dX8_reaches_5 rfl v.1 ?_
  have v := v.2
  refine zg_istore (q := 8) C dX8_reaches_6 (by decide) rfl ?_
  refine zg_iload_n (q := 9) C dX8_reaches_8 rfl rfl ?_
  refine zg_iload (q := 11) C dX8_reaches_9 rfl rfl ?_
  refine zg_irem (q := 12) C dX8_reaches_11 v.1 rfl ?_
  have v := v.2
  refine zg_iload_n (q := 13) C dX8_reaches_12 rfl rfl ?_
  refine zg_iload (q := 15) C dX8_reaches_13 rfl rfl ?_
  refine zg_irem (q := 16) C dX8_reaches_15 v.1 rfl ?_
  have v := v.2
  refine zg_isub (q := 17) C dX8_reaches_16 rfl ?_
  refine zg_cS1I (q := 20) C mX8_size tX8_size lmX8_167 rfl (Nat.le_of_ble_eq_true rfl) ⟨Nat.le_refl _, Nat.le_refl _⟩ dX8_reaches_17 rfl v (fun r2 h1 v => ?_)
  refine zg_istore (q := 22) C dX8_reaches_20 (by decide) rfl ?_
  refine zg_iload_n (q := 23) C dX8_reaches_22 rfl rfl ?_
  refine zg_iload (q := 25) C dX8_reaches_23 rfl rfl ?_
  refine zg_idiv (q := 26) C dX8_reaches_25 v.1 rfl ?_
  have v := v.2
  refine zg_iload_n (q := 27) C dX8_reaches_26 rfl rfl ?_
  refine zg_iload (q := 29) C dX8_reaches_27 rfl rfl ?_
  refine zg_idiv (q := 30) C dX8_reaches_29 v.1 rfl ?_
  have v := v.2
  refine zg_isub (q := 31) C dX8_reaches_30 rfl ?_
  refine zg_istore (q := 33) C dX8_reaches_31 (by decide) rfl ?_
  refine zg_iload (q := 35) C dX8_reaches_33 rfl rfl ?_
  refine zg_cS1I (q := 38) C mX8_size tX8_size lmX8_167 rfl (Nat.le_of_ble_eq_true rfl) ⟨Nat.le_refl _, Nat.le_refl _⟩ dX8_reaches_35 rfl v (fun r4 h3 v => ?_)
  refine zg_istore (q := 40) C dX8_reaches_38 (by decide) rfl ?_
  refine zg_iload (q := 42) C dX8_reaches_40 rfl rfl ?_
  refine zg_if_ne (t := 49) (q := 45) C dX8_reaches_42 (by decide) rfl (fun c => ?_) (fun c => ?_)
  · have v := v.1 c
    refine zg_iconst (v := 0) (q := 50) C dX8_reaches_49 (by decide) rfl ?_
    exact zg_mask [true, true, true, true, true, true, false, true, true, true, false, false] (zsX8_reaches_50 C _ _ _ _ _ _ _ _ _ _ _ v)
  · have v := v.2 c
    refine zg_iconst (v := 1) (q := 46) C dX8_reaches_45 (by decide) rfl ?_
    refine zg_goto (t := 50) C dX8_reaches_46 (by decide) ?_
    exact zg_mask [true, true, true, true, true, true, false, true, true, true, false, false] (zsX8_reaches_50 C _ _ _ _ _ _ _ _ _ _ _ v)
theorem rnX8_reaches {E : Wd} {d : Nat} {a0 : Nat} {x1 : Int32} {x2 : Int32} {x3 : Int32} {x4 : Int32} {x5 : Int32} {h : Hp} {Q : Int32 → Hp → Prop} (k : vcX8_reaches_0 E d a0 x1 x2 x3 x4 x5 h Q) : OkI E YX8_reaches (d + 1) [.ref a0, .int x1, .int x2, .int x3, .int x4, .int x5] h Q :=
  zz_body2 (r := 6) mX8_reaches (zc_a (zc_i (zc_i (zc_i (zc_i (zc_i zc_n)))))) (Nat.le_of_ble_eq_true rfl) (fun X C => zsX8_reaches_0 C a0 x1 x2 x3 x4 x5 h k)
def vcX8_isAttacked_0 (E : Wd) (d : Nat) (K13 : Nat → Nat → Int32 → Int32 → Int32 → Int32 → Int32 → Hp → Prop) (a0 : Nat) (a1 : Nat) (x2 : Int32) (x3 : Int32) (h : Hp) (Q : Int32 → Hp → Prop) : Prop :=
  isO h a0 8 ∧ OkI E YX8_occupied d [.ref a0, .ref a1] h (fun r2 h1 => K13 a0 a1 x2 x3 r2 0 0 h1)
def vcX8_isAttacked_68 (E : Wd) (d : Nat) (K13 : Nat → Nat → Int32 → Int32 → Int32 → Int32 → Int32 → Hp → Prop) (a0 : Nat) (a1 : Nat) (x2 : Int32) (x3 : Int32) (x4 : Int32) (x6 : Int32) (s0 : Int32) (h : Hp) (Q : Int32 → Hp → Prop) : Prop :=
  K13 a0 a1 x2 x3 x4 (s0 ||| (0 : Int32)) (x6 + 1) h
def vcX8_isAttacked_13 (E : Wd) (d : Nat) (K13 : Nat → Nat → Int32 → Int32 → Int32 → Int32 → Int32 → Hp → Prop) (a0 : Nat) (a1 : Nat) (x2 : Int32) (x3 : Int32) (x4 : Int32) (x5 : Int32) (x6 : Int32) (h : Hp) (Q : Int32 → Hp → Prop) : Prop :=
  okA h a0 8 4 ∧ okR E h (fA h a0 4) 0 2 ∧ ((gA h (fA h a0 4) 2) ≤ x6 → mB x5 ∧ Q x5 h) ∧ (¬ (gA h (fA h a0 4) 2) ≤ x6 → isO h a0 8 ∧ OkI E YX8_isOf d [.ref a0, .int x6, .int x3] h (fun r2 h1 => (r2 = (0 : Int32) → vcX8_isAttacked_68 E d K13 a0 a1 x2 x3 x4 x6 x5 h1 Q) ∧ (¬ r2 = (0 : Int32) → okR E h1 a1 0 x6 ∧ isO h1 a0 8 ∧ OkI E YX8_squares d [.ref a0] h1 (fun r4 h3 => (r4 ≤ (gA h1 a1 x6) → vcX8_isAttacked_68 E d K13 a0 a1 x2 x3 x4 x6 x5 h3 Q) ∧ (¬ r4 ≤ (gA h1 a1 x6) → okR E h3 a1 0 x6 ∧ isO h3 a0 8 ∧ OkI E YX8_reaches d [.ref a0, .int x6, .int (gA h3 a1 x6), .int x2, .int x4, .int 1] h3 (fun r6 h5 => (r6 = (0 : Int32) → vcX8_isAttacked_68 E d K13 a0 a1 x2 x3 x4 x6 x5 h5 Q) ∧ (¬ r6 = (0 : Int32) → K13 a0 a1 x2 x3 x4 (x5 ||| (1 : Int32)) (x6 + 1) h5)))))))
def zkX8_isAttacked_13 (E : Wd) (X : Mx) : Nat → Nat → Int32 → Int32 → Int32 → Int32 → Int32 → Hp → Prop := fun a0 a1 x2 x3 x4 x5 x6 h => GG E X 7 0 0 13 [some (.ref a0), some (.ref a1), some (.int x2), some (.int x3), some (.int x4), some (.int x5), some (.int x6)] [] h
set_option maxRecDepth 100000 in
set_option maxHeartbeats 4000000 in
theorem zsX8_isAttacked_0 {E : Wd} {X : Mx} {d : Nat} {Q : Int32 → Hp → Prop} (C : zz_C E X YX8_isAttacked (d + 1) 0 0 (fun r h' => ∃ x : Int32, r = some (.int x) ∧ Q x h')) (a0 : Nat) (a1 : Nat) (x2 : Int32) (x3 : Int32) (h : Hp) (v : vcX8_isAttacked_0 E d (zkX8_isAttacked_13 E X) a0 a1 x2 x3 h Q) : GG E X 7 0 0 0 [some (.ref a0), some (.ref a1), some (.int x2), some (.int x3), none, none, none] [] h := by
  refine zg_aload_n (q := 1) C dX8_isAttacked_0 rfl rfl ?_
  refine zg_aload_n (q := 2) C dX8_isAttacked_1 rfl rfl ?_
  refine zg_cV1I (q := 5) C mX8_occupied vX8_occupied lmX8_173 rfl (bX8).1 v.1 (Nat.le_of_ble_eq_true rfl) ⟨Nat.le_refl _, Nat.le_refl _⟩ dX8_isAttacked_2 rfl v.2 (fun r2 h1 v => ?_)
  refine zg_istore (q := 7) C dX8_isAttacked_5 (by decide) rfl ?_
  refine zg_iconst (v := 0) (q := 8) C dX8_isAttacked_7 (by decide) rfl ?_
  refine zg_istore (q := 10) C dX8_isAttacked_8 (by decide) rfl ?_
  refine zg_iconst (v := 0) (q := 11) C dX8_isAttacked_10 (by decide) rfl ?_
  refine zg_istore (q := 13) C dX8_isAttacked_11 (by decide) rfl ?_
  exact zg_mask [true, true, true, true, true, true, true] v
set_option maxRecDepth 100000 in
set_option maxHeartbeats 4000000 in
theorem zsX8_isAttacked_68 {E : Wd} {X : Mx} {d : Nat} {Q : Int32 → Hp → Prop} (C : zz_C E X YX8_isAttacked (d + 1) 0 0 (fun r h' => ∃ x : Int32, r = some (.int x) ∧ Q x h')) (a0 : Nat) (a1 : Nat) (x2 : Int32) (x3 : Int32) (x4 : Int32) (x6 : Int32) (s0 : Int32) (h : Hp) (v : vcX8_isAttacked_68 E d (zkX8_isAttacked_13 E X) a0 a1 x2 x3 x4 x6 s0 h Q) : GG E X 7 0 0 68 [some (.ref a0), some (.ref a1), some (.int x2), some (.int x3), some (.int x4), none, some (.int x6)] [.int s0] h := by
  refine zg_iconst (v := 0) (q := 69) C dX8_isAttacked_68 (by decide) rfl ?_
  refine zg_ior (q := 70) C dX8_isAttacked_69 rfl ?_
  refine zg_istore (q := 72) C dX8_isAttacked_70 (by decide) rfl ?_
  refine zg_iinc (v := 1) (q := 75) C dX8_isAttacked_72 rfl (by decide) (by decide) rfl ?_
  refine zg_goto (t := 13) C dX8_isAttacked_75 (by decide) ?_
  exact zg_mask [true, true, true, true, true, true, true] v
set_option maxRecDepth 100000 in
set_option maxHeartbeats 4000000 in
theorem zsX8_isAttacked_13 {E : Wd} {X : Mx} {d : Nat} {Q : Int32 → Hp → Prop} (C : zz_C E X YX8_isAttacked (d + 1) 0 0 (fun r h' => ∃ x : Int32, r = some (.int x) ∧ Q x h')) (a0 : Nat) (a1 : Nat) (x2 : Int32) (x3 : Int32) (x4 : Int32) (x5 : Int32) (x6 : Int32) (h : Hp) (v : vcX8_isAttacked_13 E d (zkX8_isAttacked_13 E X) a0 a1 x2 x3 x4 x5 x6 h Q) : GG E X 7 0 0 13 [some (.ref a0), some (.ref a1), some (.int x2), some (.int x3), some (.int x4), some (.int x5), some (.int x6)] [] h := by
  refine zg_iload (q := 15) C dX8_isAttacked_13 rfl rfl ?_
  refine zg_aload_n (q := 16) C dX8_isAttacked_15 rfl rfl ?_
  refine zg_get (j := 4) (q := 19) C bX8 (by decide) lkX8_13 dX8_isAttacked_16 rfl (okA.get v.1) ?_
  have v := v.2
  refine zg_iconst (v := 2) (q := 20) C dX8_isAttacked_19 (by decide) rfl ?_
  refine zg_iald (q := 21) C dX8_isAttacked_20 rfl v.1 ?_
  have v := v.2
  refine zg_icmp_ge (t := 78) (q := 24) C dX8_isAttacked_21 (by decide) rfl (fun c => ?_) (fun c => ?_)
  · have v := v.1 c
    refine zg_iload (q := 80) C dX8_isAttacked_78 rfl rfl ?_
    exact zg_zret C rfl dX8_isAttacked_80 ⟨Nat.le_refl _, Nat.le_refl _⟩ v.1 ⟨_, rfl, v.2⟩
  · have v := v.2 c
    refine zg_iload (q := 26) C dX8_isAttacked_24 rfl rfl ?_
    refine zg_aload_n (q := 27) C dX8_isAttacked_26 rfl rfl ?_
    refine zg_iload (q := 29) C dX8_isAttacked_27 rfl rfl ?_
    refine zg_iload_n (q := 30) C dX8_isAttacked_29 rfl rfl ?_
    refine zg_cV2I (q := 33) C mX8_isOf vX8_isOf lmX8_177 rfl (bX8).1 v.1 (Nat.le_of_ble_eq_true rfl) ⟨Nat.le_refl _, Nat.le_refl _⟩ dX8_isAttacked_30 rfl v.2 (fun r2 h1 v => ?_)
    refine zg_if_eq (t := 68) (q := 36) C dX8_isAttacked_33 (by decide) rfl (fun c => ?_) (fun c => ?_)
    · have v := v.1 c
      exact zg_mask [true, true, true, true, true, false, true] (zsX8_isAttacked_68 C _ _ _ _ _ _ _ _ v)
    · have v := v.2 c
      refine zg_aload_n (q := 37) C dX8_isAttacked_36 rfl rfl ?_
      refine zg_iload (q := 39) C dX8_isAttacked_37 rfl rfl ?_
      refine zg_iald (q := 40) C dX8_isAttacked_39 rfl v.1 ?_
      have v := v.2
      refine zg_aload_n (q := 41) C dX8_isAttacked_40 rfl rfl ?_
      refine zg_cV0I (q := 44) C mX8_squares vX8_squares lmX8_152 rfl (bX8).1 v.1 (Nat.le_of_ble_eq_true rfl) ⟨Nat.le_refl _, Nat.le_refl _⟩ dX8_isAttacked_41 rfl v.2 (fun r4 h3 v => ?_)
      refine zg_icmp_ge (t := 68) (q := 47) C dX8_isAttacked_44 (by decide) rfl (fun c => ?_) (fun c => ?_)
      · have v := v.1 c
        exact zg_mask [true, true, true, true, true, false, true] (zsX8_isAttacked_68 C _ _ _ _ _ _ _ _ v)
      · have v := v.2 c
        refine zg_aload_n (q := 48) C dX8_isAttacked_47 rfl rfl ?_
        refine zg_iload (q := 50) C dX8_isAttacked_48 rfl rfl ?_
        refine zg_aload_n (q := 51) C dX8_isAttacked_50 rfl rfl ?_
        refine zg_iload (q := 53) C dX8_isAttacked_51 rfl rfl ?_
        refine zg_iald (q := 54) C dX8_isAttacked_53 rfl v.1 ?_
        have v := v.2
        refine zg_iload_n (q := 55) C dX8_isAttacked_54 rfl rfl ?_
        refine zg_iload (q := 57) C dX8_isAttacked_55 rfl rfl ?_
        refine zg_iconst (v := 1) (q := 58) C dX8_isAttacked_57 (by decide) rfl ?_
        refine zg_cV5I (q := 61) C mX8_reaches vX8_reaches lmX8_180 rfl (bX8).1 v.1 (Nat.le_of_ble_eq_true rfl) ⟨Nat.le_refl _, Nat.le_refl _⟩ dX8_isAttacked_58 rfl v.2 (fun r6 h5 v => ?_)
        refine zg_if_eq (t := 68) (q := 64) C dX8_isAttacked_61 (by decide) rfl (fun c => ?_) (fun c => ?_)
        · have v := v.1 c
          exact zg_mask [true, true, true, true, true, false, true] (zsX8_isAttacked_68 C _ _ _ _ _ _ _ _ v)
        · have v := v.2 c
          refine zg_iconst (v := 1) (q := 65) C dX8_isAttacked_64 (by decide) rfl ?_
          refine zg_goto (t := 69) C dX8_isAttacked_65 (by decide) ?_
          refine zg_ior (q := 70) C dX8_isAttacked_69 rfl ?_
          refine zg_istore (q := 72) C dX8_isAttacked_70 (by decide) rfl ?_
          refine zg_iinc (v := 1) (q := 75) C dX8_isAttacked_72 rfl (by decide) (by decide) rfl ?_
          refine zg_goto (t := 13) C dX8_isAttacked_75 (by decide) ?_
          exact zg_mask [true, true, true, true, true, true, true] v
theorem rnX8_isAttacked {E : Wd} {d : Nat} {a0 : Nat} {a1 : Nat} {x2 : Int32} {x3 : Int32} {h : Hp} {Q : Int32 → Hp → Prop} (k : ∀ (K13 : Nat → Nat → Int32 → Int32 → Int32 → Int32 → Int32 → Hp → Prop),(∀ (a0 : Nat) (a1 : Nat) (x2 : Int32) (x3 : Int32) (x4 : Int32) (x5 : Int32) (x6 : Int32) h, vcX8_isAttacked_13 E d K13 a0 a1 x2 x3 x4 x5 x6 h Q → K13 a0 a1 x2 x3 x4 x5 x6 h) → vcX8_isAttacked_0 E d K13 a0 a1 x2 x3 h Q) : OkI E YX8_isAttacked (d + 1) [.ref a0, .ref a1, .int x2, .int x3] h Q :=
  zz_body2 (r := 3) mX8_isAttacked (zc_a (zc_a (zc_i (zc_i zc_n)))) (Nat.le_of_ble_eq_true rfl) (fun X C => zsX8_isAttacked_0 C a0 a1 x2 x3 h (k (zkX8_isAttacked_13 E X) (fun a0 a1 x2 x3 x4 x5 x6 h v => zsX8_isAttacked_13 C a0 a1 x2 x3 x4 x5 x6 h v)))
def vcX8_isInCheck_0 (E : Wd) (d : Nat) (a0 : Nat) (a1 : Nat) (x2 : Int32) (h : Hp) (Q : Int32 → Hp → Prop) : Prop :=
  isO h a0 8 ∧ OkI E YX8_royal d [.ref a0, .int x2] h (fun r2 h1 => okR E h1 a1 0 r2 ∧ isO h1 a0 8 ∧ OkI E YX8_isAttacked d [.ref a0, .ref a1, .int (gA h1 a1 r2), .int ((1 : Int32) - x2)] h1 (fun r4 h3 => mB r4 ∧ Q r4 h3))
set_option maxRecDepth 100000 in
set_option maxHeartbeats 4000000 in
theorem zsX8_isInCheck_0 {E : Wd} {X : Mx} {d : Nat} {Q : Int32 → Hp → Prop} (C : zz_C E X YX8_isInCheck (d + 1) 0 0 (fun r h' => ∃ x : Int32, r = some (.int x) ∧ Q x h')) (a0 : Nat) (a1 : Nat) (x2 : Int32) (h : Hp) (v : vcX8_isInCheck_0 E d a0 a1 x2 h Q) : GG E X 3 0 0 0 [some (.ref a0), some (.ref a1), some (.int x2)] [] h := by
  refine zg_aload_n (q := 1) C dX8_isInCheck_0 rfl rfl ?_
  refine zg_aload_n (q := 2) C dX8_isInCheck_1 rfl rfl ?_
  refine zg_aload_n (q := 3) C dX8_isInCheck_2 rfl rfl ?_
  refine zg_aload_n (q := 4) C dX8_isInCheck_3 rfl rfl ?_
  refine zg_iload_n (q := 5) C dX8_isInCheck_4 rfl rfl ?_
  refine zg_cV1I (q := 8) C mX8_royal vX8_royal lmX8_184 rfl (bX8).1 v.1 (Nat.le_of_ble_eq_true rfl) ⟨Nat.le_refl _, Nat.le_refl _⟩ dX8_isInCheck_5 rfl v.2 (fun r2 h1 v => ?_)
  refine zg_iald (q := 9) C dX8_isInCheck_8 rfl v.1 ?_
  have v := v.2
  refine zg_iconst (v := 1) (q := 10) C dX8_isInCheck_9 (by decide) rfl ?_
  refine zg_iload_n (q := 11) C dX8_isInCheck_10 rfl rfl ?_
  refine zg_isub (q := 12) C dX8_isInCheck_11 rfl ?_
  refine zg_cV3I (q := 15) C mX8_isAttacked vX8_isAttacked lmX8_187 rfl (bX8).1 v.1 (Nat.le_of_ble_eq_true rfl) ⟨Nat.le_refl _, Nat.le_refl _⟩ dX8_isInCheck_12 rfl v.2 (fun r4 h3 v => ?_)
  exact zg_zret C rfl dX8_isInCheck_15 ⟨Nat.le_refl _, Nat.le_refl _⟩ v.1 ⟨_, rfl, v.2⟩
theorem rnX8_isInCheck {E : Wd} {d : Nat} {a0 : Nat} {a1 : Nat} {x2 : Int32} {h : Hp} {Q : Int32 → Hp → Prop} (k : vcX8_isInCheck_0 E d a0 a1 x2 h Q) : OkI E YX8_isInCheck (d + 1) [.ref a0, .ref a1, .int x2] h Q :=
  zz_body2 (r := 0) mX8_isInCheck (zc_a (zc_a (zc_i zc_n))) (Nat.le_of_ble_eq_true rfl) (fun X C => zsX8_isInCheck_0 C a0 a1 x2 h k)
def vcX8_isPossible_0 (E : Wd) (d : Nat) (K13 : Nat → Nat → Int32 → Int32 → Int32 → Int32 → Hp → Prop) (a0 : Nat) (a1 : Nat) (x2 : Int32) (h : Hp) (Q : Int32 → Hp → Prop) : Prop :=
  okA h a0 8 4 ∧ okR E h (fA h a0 4) 0 4 ∧ K13 a0 a1 x2 1 (gA h (fA h a0 4) 4) 0 h
def vcX8_isPossible_126 (E : Wd) (d : Nat) (K13 : Nat → Nat → Int32 → Int32 → Int32 → Int32 → Hp → Prop) (a0 : Nat) (a1 : Nat) (x2 : Int32) (x4 : Int32) (x5 : Int32) (x6 : Int32) (s0 : Int32) (s1 : Int32) (h : Hp) (Q : Int32 → Hp → Prop) : Prop :=
  (x6 = (0 : Int32) → K13 a0 a1 x2 (s0 &&& s1) (x4 ||| (0 : Int32)) (x5 + 1) h) ∧ (¬ x6 = (0 : Int32) → okR E h a1 0 x5 ∧ K13 a0 a1 x2 (s0 &&& s1) (x4 ||| ((1 : Int32) <<< ((gA h a1 x5) &&& 31))) (x5 + 1) h)
def vcX8_isPossible_121 (E : Wd) (d : Nat) (K13 : Nat → Nat → Int32 → Int32 → Int32 → Int32 → Hp → Prop) (a0 : Nat) (a1 : Nat) (x2 : Int32) (x4 : Int32) (x5 : Int32) (x6 : Int32) (s0 : Int32) (h : Hp) (Q : Int32 → Hp → Prop) : Prop :=
  vcX8_isPossible_126 E d K13 a0 a1 x2 x4 x5 x6 s0 1 h Q
def vcX8_isPossible_125 (E : Wd) (d : Nat) (K13 : Nat → Nat → Int32 → Int32 → Int32 → Int32 → Hp → Prop) (a0 : Nat) (a1 : Nat) (x2 : Int32) (x4 : Int32) (x5 : Int32) (x6 : Int32) (s0 : Int32) (h : Hp) (Q : Int32 → Hp → Prop) : Prop :=
  vcX8_isPossible_126 E d K13 a0 a1 x2 x4 x5 x6 s0 0 h Q
def vcX8_isPossible_99 (E : Wd) (d : Nat) (K13 : Nat → Nat → Int32 → Int32 → Int32 → Int32 → Hp → Prop) (a0 : Nat) (a1 : Nat) (x2 : Int32) (x4 : Int32) (x5 : Int32) (x6 : Int32) (s0 : Int32) (h : Hp) (Q : Int32 → Hp → Prop) : Prop :=
  okA h a0 8 4 ∧ okR E h (fA h a0 4) 0 2 ∧ (x5 < (gA h (fA h a0 4) 2) → vcX8_isPossible_121 E d K13 a0 a1 x2 x4 x5 x6 s0 h Q) ∧ (¬ x5 < (gA h (fA h a0 4) 2) → okR E h a1 0 x5 ∧ isO h a0 8 ∧ OkI E YX8_squares d [.ref a0] h (fun r2 h1 => (¬ (gA h a1 x5) = r2 → vcX8_isPossible_125 E d K13 a0 a1 x2 x4 x5 x6 s0 h1 Q) ∧ ((gA h a1 x5) = r2 → vcX8_isPossible_121 E d K13 a0 a1 x2 x4 x5 x6 s0 h1 Q)))
def vcX8_isPossible_82 (E : Wd) (d : Nat) (K13 : Nat → Nat → Int32 → Int32 → Int32 → Int32 → Hp → Prop) (a0 : Nat) (a1 : Nat) (x2 : Int32) (x4 : Int32) (x5 : Int32) (x6 : Int32) (s0 : Int32) (h : Hp) (Q : Int32 → Hp → Prop) : Prop :=
  (x6 = (0 : Int32) → vcX8_isPossible_99 E d K13 a0 a1 x2 x4 x5 x6 s0 h Q) ∧ (¬ x6 = (0 : Int32) → okR E h a1 0 x5 ∧ OkI E YX8_has d [.int x4, .int (gA h a1 x5)] h (fun r2 h1 => (¬ r2 = (0 : Int32) → vcX8_isPossible_125 E d K13 a0 a1 x2 x4 x5 x6 s0 h1 Q) ∧ (r2 = (0 : Int32) → vcX8_isPossible_99 E d K13 a0 a1 x2 x4 x5 x6 s0 h1 Q)))
def vcX8_isPossible_69 (E : Wd) (d : Nat) (K13 : Nat → Nat → Int32 → Int32 → Int32 → Int32 → Hp → Prop) (a0 : Nat) (a1 : Nat) (x2 : Int32) (x3 : Int32) (x4 : Int32) (x5 : Int32) (x6 : Int32) (s0 : Int32) (h : Hp) (Q : Int32 → Hp → Prop) : Prop :=
  (¬ x6 = (0 : Int32) → vcX8_isPossible_82 E d K13 a0 a1 x2 x4 x5 x6 x3 h Q) ∧ (x6 = (0 : Int32) → (¬ s0 = (0 : Int32) → vcX8_isPossible_125 E d K13 a0 a1 x2 x4 x5 x6 x3 h Q) ∧ (s0 = (0 : Int32) → vcX8_isPossible_82 E d K13 a0 a1 x2 x4 x5 x6 x3 h Q))
def vcX8_isPossible_64 (E : Wd) (d : Nat) (K13 : Nat → Nat → Int32 → Int32 → Int32 → Int32 → Hp → Prop) (a0 : Nat) (a1 : Nat) (x2 : Int32) (x3 : Int32) (x4 : Int32) (x5 : Int32) (x6 : Int32) (h : Hp) (Q : Int32 → Hp → Prop) : Prop :=
  vcX8_isPossible_69 E d K13 a0 a1 x2 x3 x4 x5 x6 1 h Q
def vcX8_isPossible_46 (E : Wd) (d : Nat) (K13 : Nat → Nat → Int32 → Int32 → Int32 → Int32 → Hp → Prop) (a0 : Nat) (a1 : Nat) (x2 : Int32) (x3 : Int32) (x4 : Int32) (x5 : Int32) (s0 : Int32) (h : Hp) (Q : Int32 → Hp → Prop) : Prop :=
  (x5 = (0 : Int32) → vcX8_isPossible_64 E d K13 a0 a1 x2 x3 x4 x5 s0 h Q) ∧ (¬ x5 = (0 : Int32) → okA h a0 8 4 ∧ okR E h (fA h a0 4) 0 3 ∧ (¬ x5 = (gA h (fA h a0 4) 3) → vcX8_isPossible_69 E d K13 a0 a1 x2 x3 x4 x5 s0 0 h Q) ∧ (x5 = (gA h (fA h a0 4) 3) → vcX8_isPossible_64 E d K13 a0 a1 x2 x3 x4 x5 s0 h Q))
def vcX8_isPossible_45 (E : Wd) (d : Nat) (K13 : Nat → Nat → Int32 → Int32 → Int32 → Int32 → Hp → Prop) (a0 : Nat) (a1 : Nat) (x2 : Int32) (x3 : Int32) (x4 : Int32) (x5 : Int32) (h : Hp) (Q : Int32 → Hp → Prop) : Prop :=
  vcX8_isPossible_46 E d K13 a0 a1 x2 x3 x4 x5 0 h Q
def vcX8_isPossible_13 (E : Wd) (d : Nat) (K13 : Nat → Nat → Int32 → Int32 → Int32 → Int32 → Hp → Prop) (a0 : Nat) (a1 : Nat) (x2 : Int32) (x3 : Int32) (x4 : Int32) (x5 : Int32) (h : Hp) (Q : Int32 → Hp → Prop) : Prop :=
  ((3 : Int32) ≤ x5 → (x3 = (0 : Int32) → mB 0 ∧ Q 0 h) ∧ (¬ x3 = (0 : Int32) → isO h a0 8 ∧ OkI E YX8_isInCheck d [.ref a0, .ref a1, .int ((1 : Int32) - x2)] h (fun r2 h1 => (¬ r2 = (0 : Int32) → mB 0 ∧ Q 0 h1) ∧ (r2 = (0 : Int32) → mB 1 ∧ Q 1 h1)))) ∧ (¬ (3 : Int32) ≤ x5 → okA h a0 8 4 ∧ okR E h (fA h a0 4) 0 2 ∧ ((gA h (fA h a0 4) 2) ≤ x5 → vcX8_isPossible_45 E d K13 a0 a1 x2 x3 x4 x5 h Q) ∧ (¬ (gA h (fA h a0 4) 2) ≤ x5 → okR E h a1 0 x5 ∧ isO h a0 8 ∧ OkI E YX8_squares d [.ref a0] h (fun r4 h3 => (r4 ≤ (gA h a1 x5) → vcX8_isPossible_45 E d K13 a0 a1 x2 x3 x4 x5 h3 Q) ∧ (¬ r4 ≤ (gA h a1 x5) → vcX8_isPossible_46 E d K13 a0 a1 x2 x3 x4 x5 1 h3 Q))))
def zkX8_isPossible_13 (E : Wd) (X : Mx) : Nat → Nat → Int32 → Int32 → Int32 → Int32 → Hp → Prop := fun a0 a1 x2 x3 x4 x5 h => GG E X 8 0 0 13 [some (.ref a0), some (.ref a1), some (.int x2), some (.int x3), some (.int x4), some (.int x5), none, none] [] h
set_option maxRecDepth 100000 in
set_option maxHeartbeats 4000000 in
theorem zsX8_isPossible_0 {E : Wd} {X : Mx} {d : Nat} {Q : Int32 → Hp → Prop} (C : zz_C E X YX8_isPossible (d + 1) 0 0 (fun r h' => ∃ x : Int32, r = some (.int x) ∧ Q x h')) (a0 : Nat) (a1 : Nat) (x2 : Int32) (h : Hp) (v : vcX8_isPossible_0 E d (zkX8_isPossible_13 E X) a0 a1 x2 h Q) : GG E X 8 0 0 0 [some (.ref a0), some (.ref a1), some (.int x2), none, none, none, none, none] [] h := by
  refine zg_iconst (v := 1) (q := 1) C dX8_isPossible_0 (by decide) rfl ?_
  refine zg_istore_n (q := 2) C dX8_isPossible_1 (by decide) rfl ?_
  refine zg_aload_n (q := 3) C dX8_isPossible_2 rfl rfl ?_
  refine zg_get (j := 4) (q := 6) C bX8 (by decide) lkX8_13 dX8_isPossible_3 rfl (okA.get v.1) ?_
  have v := v.2
  refine zg_iconst (v := 4) (q := 7) C dX8_isPossible_6 (by decide) rfl ?_
  refine zg_iald (q := 8) C dX8_isPossible_7 rfl v.1 ?_
  have v := v.2
  refine zg_istore (q := 10) C dX8_isPossible_8 (by decide) rfl ?_
  refine zg_iconst (v := 0) (q := 11) C dX8_isPossible_10 (by decide) rfl ?_
  refine zg_istore (q := 13) C dX8_isPossible_11 (by decide) rfl ?_
  exact zg_mask [true, true, true, true, true, true, false, false] v
set_option maxRecDepth 100000 in
set_option maxHeartbeats 4000000 in
theorem zsX8_isPossible_126 {E : Wd} {X : Mx} {d : Nat} {Q : Int32 → Hp → Prop} (C : zz_C E X YX8_isPossible (d + 1) 0 0 (fun r h' => ∃ x : Int32, r = some (.int x) ∧ Q x h')) (a0 : Nat) (a1 : Nat) (x2 : Int32) (x4 : Int32) (x5 : Int32) (x6 : Int32) (s0 : Int32) (s1 : Int32) (h : Hp) (v : vcX8_isPossible_126 E d (zkX8_isPossible_13 E X) a0 a1 x2 x4 x5 x6 s0 s1 h Q) : GG E X 8 0 0 126 [some (.ref a0), some (.ref a1), some (.int x2), none, some (.int x4), some (.int x5), some (.int x6), none] [.int s1, .int s0] h := by
  refine zg_iand (q := 127) C dX8_isPossible_126 rfl ?_
  refine zg_istore_n (q := 128) C dX8_isPossible_127 (by decide) rfl ?_
  refine zg_iload (q := 130) C dX8_isPossible_128 rfl rfl ?_
  refine zg_iload (q := 132) C dX8_isPossible_130 rfl rfl ?_
  refine zg_if_eq (t := 144) (q := 135) C dX8_isPossible_132 (by decide) rfl (fun c => ?_) (fun c => ?_)
  · have v := v.1 c
    refine zg_iconst (v := 0) (q := 145) C dX8_isPossible_144 (by decide) rfl ?_
    refine zg_ior (q := 146) C dX8_isPossible_145 rfl ?_
    refine zg_istore (q := 148) C dX8_isPossible_146 (by decide) rfl ?_
    refine zg_iinc (v := 1) (q := 151) C dX8_isPossible_148 rfl (by decide) (by decide) rfl ?_
    refine zg_goto (t := 13) C dX8_isPossible_151 (by decide) ?_
    exact zg_mask [true, true, true, true, true, true, false, false] v
  · have v := v.2 c
    refine zg_iconst (v := 1) (q := 136) C dX8_isPossible_135 (by decide) rfl ?_
    refine zg_aload_n (q := 137) C dX8_isPossible_136 rfl rfl ?_
    refine zg_iload (q := 139) C dX8_isPossible_137 rfl rfl ?_
    refine zg_iald (q := 140) C dX8_isPossible_139 rfl v.1 ?_
    have v := v.2
    refine zg_ishl (q := 141) C dX8_isPossible_140 rfl ?_
    refine zg_goto (t := 145) C dX8_isPossible_141 (by decide) ?_
    refine zg_ior (q := 146) C dX8_isPossible_145 rfl ?_
    refine zg_istore (q := 148) C dX8_isPossible_146 (by decide) rfl ?_
    refine zg_iinc (v := 1) (q := 151) C dX8_isPossible_148 rfl (by decide) (by decide) rfl ?_
    refine zg_goto (t := 13) C dX8_isPossible_151 (by decide) ?_
    exact zg_mask [true, true, true, true, true, true, false, false] v
set_option maxRecDepth 100000 in
set_option maxHeartbeats 4000000 in
theorem zsX8_isPossible_121 {E : Wd} {X : Mx} {d : Nat} {Q : Int32 → Hp → Prop} (C : zz_C E X YX8_isPossible (d + 1) 0 0 (fun r h' => ∃ x : Int32, r = some (.int x) ∧ Q x h')) (a0 : Nat) (a1 : Nat) (x2 : Int32) (x4 : Int32) (x5 : Int32) (x6 : Int32) (s0 : Int32) (h : Hp) (v : vcX8_isPossible_121 E d (zkX8_isPossible_13 E X) a0 a1 x2 x4 x5 x6 s0 h Q) : GG E X 8 0 0 121 [some (.ref a0), some (.ref a1), some (.int x2), none, some (.int x4), some (.int x5), some (.int x6), none] [.int s0] h := by
  refine zg_iconst (v := 1) (q := 122) C dX8_isPossible_121 (by decide) rfl ?_
  refine zg_goto (t := 126) C dX8_isPossible_122 (by decide) ?_
  exact zg_mask [true, true, true, false, true, true, true, false] (zsX8_isPossible_126 C _ _ _ _ _ _ _ _ _ v)
set_option maxRecDepth 100000 in
set_option maxHeartbeats 4000000 in
theorem zsX8_isPossible_125 {E : Wd} {X : Mx} {d : Nat} {Q : Int32 → Hp → Prop} (C : zz_C E X YX8_isPossible (d + 1) 0 0 (fun r h' => ∃ x : Int32, r = some (.int x) ∧ Q x h')) (a0 : Nat) (a1 : Nat) (x2 : Int32) (x4 : Int32) (x5 : Int32) (x6 : Int32) (s0 : Int32) (h : Hp) (v : vcX8_isPossible_125 E d (zkX8_isPossible_13 E X) a0 a1 x2 x4 x5 x6 s0 h Q) : GG E X 8 0 0 125 [some (.ref a0), some (.ref a1), some (.int x2), none, some (.int x4), some (.int x5), some (.int x6), none] [.int s0] h := by
  refine zg_iconst (v := 0) (q := 126) C dX8_isPossible_125 (by decide) rfl ?_
  exact zg_mask [true, true, true, false, true, true, true, false] (zsX8_isPossible_126 C _ _ _ _ _ _ _ _ _ v)
set_option maxRecDepth 100000 in
set_option maxHeartbeats 4000000 in
theorem zsX8_isPossible_99 {E : Wd} {X : Mx} {d : Nat} {Q : Int32 → Hp → Prop} (C : zz_C E X YX8_isPossible (d + 1) 0 0 (fun r h' => ∃ x : Int32, r = some (.int x) ∧ Q x h')) (a0 : Nat) (a1 : Nat) (x2 : Int32) (x4 : Int32) (x5 : Int32) (x6 : Int32) (s0 : Int32) (h : Hp) (v : vcX8_isPossible_99 E d (zkX8_isPossible_13 E X) a0 a1 x2 x4 x5 x6 s0 h Q) : GG E X 8 0 0 99 [some (.ref a0), some (.ref a1), some (.int x2), none, some (.int x4), some (.int x5), some (.int x6), none] [.int s0] h := by
  refine zg_iload (q := 101) C dX8_isPossible_99 rfl rfl ?_
  refine zg_aload_n (q := 102) C dX8_isPossible_101 rfl rfl ?_
  refine zg_get (j := 4) (q := 105) C bX8 (by decide) lkX8_13 dX8_isPossible_102 rfl (okA.get v.1) ?_
  have v := v.2
  refine zg_iconst (v := 2) (q := 106) C dX8_isPossible_105 (by decide) rfl ?_
  refine zg_iald (q := 107) C dX8_isPossible_106 rfl v.1 ?_
  have v := v.2
  refine zg_icmp_lt (t := 121) (q := 110) C dX8_isPossible_107 (by decide) rfl (fun c => ?_) (fun c => ?_)
  · have v := v.1 c
    exact zg_mask [true, true, true, false, true, true, true, false] (zsX8_isPossible_121 C _ _ _ _ _ _ _ _ v)
  · have v := v.2 c
    refine zg_aload_n (q := 111) C dX8_isPossible_110 rfl rfl ?_
    refine zg_iload (q := 113) C dX8_isPossible_111 rfl rfl ?_
    refine zg_iald (q := 114) C dX8_isPossible_113 rfl v.1 ?_
    have v := v.2
    refine zg_aload_n (q := 115) C dX8_isPossible_114 rfl rfl ?_
    refine zg_cV0I (q := 118) C mX8_squares vX8_squares lmX8_152 rfl (bX8).1 v.1 (Nat.le_of_ble_eq_true rfl) ⟨Nat.le_refl _, Nat.le_refl _⟩ dX8_isPossible_115 rfl v.2 (fun r2 h1 v => ?_)
    refine zg_icmp_ne (t := 125) (q := 121) C dX8_isPossible_118 (by decide) rfl (fun c => ?_) (fun c => ?_)
    · have v := v.1 c
      exact zg_mask [true, true, true, false, true, true, true, false] (zsX8_isPossible_125 C _ _ _ _ _ _ _ _ v)
    · have v := v.2 c
      exact zg_mask [true, true, true, false, true, true, true, false] (zsX8_isPossible_121 C _ _ _ _ _ _ _ _ v)
set_option maxRecDepth 100000 in
set_option maxHeartbeats 4000000 in
theorem zsX8_isPossible_82 {E : Wd} {X : Mx} {d : Nat} {Q : Int32 → Hp → Prop} (C : zz_C E X YX8_isPossible (d + 1) 0 0 (fun r h' => ∃ x : Int32, r = some (.int x) ∧ Q x h')) (a0 : Nat) (a1 : Nat) (x2 : Int32) (x4 : Int32) (x5 : Int32) (x6 : Int32) (s0 : Int32) (h : Hp) (v : vcX8_isPossible_82 E d (zkX8_isPossible_13 E X) a0 a1 x2 x4 x5 x6 s0 h Q) : GG E X 8 0 0 82 [some (.ref a0), some (.ref a1), some (.int x2), none, some (.int x4), some (.int x5), some (.int x6), none] [.int s0] h := by
  refine zg_iload (q := 84) C dX8_isPossible_82 rfl rfl ?_
  refine zg_if_eq (t := 99) (q := 87) C dX8_isPossible_84 (by decide) rfl (fun c => ?_) (fun c => ?_)
  · have v := v.1 c
    exact zg_mask [true, true, true, false, true, true, true, false] (zsX8_isPossible_99 C _ _ _ _ _ _ _ _ v)
  · have v := v.2 c
    refine zg_iload (q := 89) C dX8_isPossible_87 rfl rfl ?_
    refine zg_aload_n (q := 90) C dX8_isPossible_89 rfl rfl ?_
    refine zg_iload (q := 92) C dX8_isPossible_90 rfl rfl ?_
    refine zg_iald (q := 93) C dX8_isPossible_92 rfl v.1 ?_
    have v := v.2
    refine zg_cS2I (q := 96) C mX8_has tX8_has lmX8_164 rfl (Nat.le_of_ble_eq_true rfl) ⟨Nat.le_refl _, Nat.le_refl _⟩ dX8_isPossible_93 rfl v (fun r2 h1 v => ?_)
    refine zg_if_ne (t := 125) (q := 99) C dX8_isPossible_96 (by decide) rfl (fun c => ?_) (fun c => ?_)
    · have v := v.1 c
      exact zg_mask [true, true, true, false, true, true, true, false] (zsX8_isPossible_125 C _ _ _ _ _ _ _ _ v)
    · have v := v.2 c
      exact zg_mask [true, true, true, false, true, true, true, false] (zsX8_isPossible_99 C _ _ _ _ _ _ _ _ v)
set_option maxRecDepth 100000 in
set_option maxHeartbeats 4000000 in
theorem zsX8_isPossible_69 {E : Wd} {X : Mx} {d : Nat} {Q : Int32 → Hp → Prop} (C : zz_C E X YX8_isPossible (d + 1) 0 0 (fun r h' => ∃ x : Int32, r = some (.int x) ∧ Q x h')) (a0 : Nat) (a1 : Nat) (x2 : Int32) (x3 : Int32) (x4 : Int32) (x5 : Int32) (x6 : Int32) (s0 : Int32) (h : Hp) (v : vcX8_isPossible_69 E d (zkX8_isPossible_13 E X) a0 a1 x2 x3 x4 x5 x6 s0 h Q) : GG E X 8 0 0 69 [some (.ref a0), some (.ref a1), some (.int x2), some (.int x3), some (.int x4), some (.int x5), some (.int x6), none] [.int s0] h := by
  refine zg_istore (q := 71) C dX8_isPossible_69 (by decide) rfl ?_
  refine zg_iload_n (q := 72) C dX8_isPossible_71 rfl rfl ?_
  refine zg_iload (q := 74) C dX8_isPossible_72 rfl rfl ?_
  refine zg_if_ne (t := 82) (q := 77) C dX8_isPossible_74 (by decide) rfl (fun c => ?_) (fun c => ?_)
  · have v := v.1 c
    exact zg_mask [true, true, true, false, true, true, true, false] (zsX8_isPossible_82 C _ _ _ _ _ _ _ _ v)
  · have v := v.2 c
    refine zg_iload (q := 79) C dX8_isPossible_77 rfl rfl ?_
    refine zg_if_ne (t := 125) (q := 82) C dX8_isPossible_79 (by decide) rfl (fun c => ?_) (fun c => ?_)
    · have v := v.1 c
      exact zg_mask [true, true, true, false, true, true, true, false] (zsX8_isPossible_125 C _ _ _ _ _ _ _ _ v)
    · have v := v.2 c
      exact zg_mask [true, true, true, false, true, true, true, false] (zsX8_isPossible_82 C _ _ _ _ _ _ _ _ v)
set_option maxRecDepth 100000 in
set_option maxHeartbeats 4000000 in
theorem zsX8_isPossible_64 {E : Wd} {X : Mx} {d : Nat} {Q : Int32 → Hp → Prop} (C : zz_C E X YX8_isPossible (d + 1) 0 0 (fun r h' => ∃ x : Int32, r = some (.int x) ∧ Q x h')) (a0 : Nat) (a1 : Nat) (x2 : Int32) (x3 : Int32) (x4 : Int32) (x5 : Int32) (x6 : Int32) (h : Hp) (v : vcX8_isPossible_64 E d (zkX8_isPossible_13 E X) a0 a1 x2 x3 x4 x5 x6 h Q) : GG E X 8 0 0 64 [some (.ref a0), some (.ref a1), some (.int x2), some (.int x3), some (.int x4), some (.int x5), some (.int x6), none] [] h := by
  refine zg_iconst (v := 1) (q := 65) C dX8_isPossible_64 (by decide) rfl ?_
  refine zg_goto (t := 69) C dX8_isPossible_65 (by decide) ?_
  exact zg_mask [true, true, true, true, true, true, true, false] (zsX8_isPossible_69 C _ _ _ _ _ _ _ _ _ v)
set_option maxRecDepth 100000 in
set_option maxHeartbeats 4000000 in
theorem zsX8_isPossible_46 {E : Wd} {X : Mx} {d : Nat} {Q : Int32 → Hp → Prop} (C : zz_C E X YX8_isPossible (d + 1) 0 0 (fun r h' => ∃ x : Int32, r = some (.int x) ∧ Q x h')) (a0 : Nat) (a1 : Nat) (x2 : Int32) (x3 : Int32) (x4 : Int32) (x5 : Int32) (s0 : Int32) (h : Hp) (v : vcX8_isPossible_46 E d (zkX8_isPossible_13 E X) a0 a1 x2 x3 x4 x5 s0 h Q) : GG E X 8 0 0 46 [some (.ref a0), some (.ref a1), some (.int x2), some (.int x3), some (.int x4), some (.int x5), none, none] [.int s0] h := by
  refine zg_istore (q := 48) C dX8_isPossible_46 (by decide) rfl ?_
  refine zg_iload (q := 50) C dX8_isPossible_48 rfl rfl ?_
  refine zg_if_eq (t := 64) (q := 53) C dX8_isPossible_50 (by decide) rfl (fun c => ?_) (fun c => ?_)
  · have v := v.1 c
    exact zg_mask [true, true, true, true, true, true, true, false] (zsX8_isPossible_64 C _ _ _ _ _ _ _ _ v)
  · have v := v.2 c
    refine zg_iload (q := 55) C dX8_isPossible_53 rfl rfl ?_
    refine zg_aload_n (q := 56) C dX8_isPossible_55 rfl rfl ?_
    refine zg_get (j := 4) (q := 59) C bX8 (by decide) lkX8_13 dX8_isPossible_56 rfl (okA.get v.1) ?_
    have v := v.2
    refine zg_iconst (v := 3) (q := 60) C dX8_isPossible_59 (by decide) rfl ?_
    refine zg_iald (q := 61) C dX8_isPossible_60 rfl v.1 ?_
    have v := v.2
    refine zg_icmp_ne (t := 68) (q := 64) C dX8_isPossible_61 (by decide) rfl (fun c => ?_) (fun c => ?_)
    · have v := v.1 c
      refine zg_iconst (v := 0) (q := 69) C dX8_isPossible_68 (by decide) rfl ?_
      exact zg_mask [true, true, true, true, true, true, true, false] (zsX8_isPossible_69 C _ _ _ _ _ _ _ _ _ v)
    · have v := v.2 c
      exact zg_mask [true, true, true, true, true, true, true, false] (zsX8_isPossible_64 C _ _ _ _ _ _ _ _ v)
set_option maxRecDepth 100000 in
set_option maxHeartbeats 4000000 in
theorem zsX8_isPossible_45 {E : Wd} {X : Mx} {d : Nat} {Q : Int32 → Hp → Prop} (C : zz_C E X YX8_isPossible (d + 1) 0 0 (fun r h' => ∃ x : Int32, r = some (.int x) ∧ Q x h')) (a0 : Nat) (a1 : Nat) (x2 : Int32) (x3 : Int32) (x4 : Int32) (x5 : Int32) (h : Hp) (v : vcX8_isPossible_45 E d (zkX8_isPossible_13 E X) a0 a1 x2 x3 x4 x5 h Q) : GG E X 8 0 0 45 [some (.ref a0), some (.ref a1), some (.int x2), some (.int x3), some (.int x4), some (.int x5), none, none] [] h := by
  refine zg_iconst (v := 0) (q := 46) C dX8_isPossible_45 (by decide) rfl ?_
  exact zg_mask [true, true, true, true, true, true, false, false] (zsX8_isPossible_46 C _ _ _ _ _ _ _ _ v)
set_option maxRecDepth 100000 in
set_option maxHeartbeats 4000000 in
theorem zsX8_isPossible_13 {E : Wd} {X : Mx} {d : Nat} {Q : Int32 → Hp → Prop} (C : zz_C E X YX8_isPossible (d + 1) 0 0 (fun r h' => ∃ x : Int32, r = some (.int x) ∧ Q x h')) (a0 : Nat) (a1 : Nat) (x2 : Int32) (x3 : Int32) (x4 : Int32) (x5 : Int32) (h : Hp) (v : vcX8_isPossible_13 E d (zkX8_isPossible_13 E X) a0 a1 x2 x3 x4 x5 h Q) : GG E X 8 0 0 13 [some (.ref a0), some (.ref a1), some (.int x2), some (.int x3), some (.int x4), some (.int x5), none, none] [] h := by
  refine zg_iload (q := 15) C dX8_isPossible_13 rfl rfl ?_
  refine zg_iconst (v := 3) (q := 16) C dX8_isPossible_15 (by decide) rfl ?_
  refine zg_icmp_ge (t := 154) (q := 19) C dX8_isPossible_16 (by decide) rfl (fun c => ?_) (fun c => ?_)
  · have v := v.1 c
    refine zg_iload_n (q := 155) C dX8_isPossible_154 rfl rfl ?_
    refine zg_if_eq (t := 173) (q := 158) C dX8_isPossible_155 (by decide) rfl (fun c => ?_) (fun c => ?_)
    · have v := v.1 c
      refine zg_iconst (v := 0) (q := 174) C dX8_isPossible_173 (by decide) rfl ?_
      exact zg_zret C rfl dX8_isPossible_174 ⟨Nat.le_refl _, Nat.le_refl _⟩ v.1 ⟨_, rfl, v.2⟩
    · have v := v.2 c
      refine zg_aload_n (q := 159) C dX8_isPossible_158 rfl rfl ?_
      refine zg_aload_n (q := 160) C dX8_isPossible_159 rfl rfl ?_
      refine zg_iconst (v := 1) (q := 161) C dX8_isPossible_160 (by decide) rfl ?_
      refine zg_iload_n (q := 162) C dX8_isPossible_161 rfl rfl ?_
      refine zg_isub (q := 163) C dX8_isPossible_162 rfl ?_
      refine zg_cV2I (q := 166) C mX8_isInCheck vX8_isInCheck lmX8_191 rfl (bX8).1 v.1 (Nat.le_of_ble_eq_true rfl) ⟨Nat.le_refl _, Nat.le_refl _⟩ dX8_isPossible_163 rfl v.2 (fun r2 h1 v => ?_)
      refine zg_if_ne (t := 173) (q := 169) C dX8_isPossible_166 (by decide) rfl (fun c => ?_) (fun c => ?_)
      · have v := v.1 c
        refine zg_iconst (v := 0) (q := 174) C dX8_isPossible_173 (by decide) rfl ?_
        exact zg_zret C rfl dX8_isPossible_174 ⟨Nat.le_refl _, Nat.le_refl _⟩ v.1 ⟨_, rfl, v.2⟩
      · have v := v.2 c
        refine zg_iconst (v := 1) (q := 170) C dX8_isPossible_169 (by decide) rfl ?_
        refine zg_goto (t := 174) C dX8_isPossible_170 (by decide) ?_
        exact zg_zret C rfl dX8_isPossible_174 ⟨Nat.le_refl _, Nat.le_refl _⟩ v.1 ⟨_, rfl, v.2⟩
  · have v := v.2 c
    refine zg_iload (q := 21) C dX8_isPossible_19 rfl rfl ?_
    refine zg_aload_n (q := 22) C dX8_isPossible_21 rfl rfl ?_
    refine zg_get (j := 4) (q := 25) C bX8 (by decide) lkX8_13 dX8_isPossible_22 rfl (okA.get v.1) ?_
    have v := v.2
    refine zg_iconst (v := 2) (q := 26) C dX8_isPossible_25 (by decide) rfl ?_
    refine zg_iald (q := 27) C dX8_isPossible_26 rfl v.1 ?_
    have v := v.2
    refine zg_icmp_ge (t := 45) (q := 30) C dX8_isPossible_27 (by decide) rfl (fun c => ?_) (fun c => ?_)
    · have v := v.1 c
      exact zg_mask [true, true, true, true, true, true, false, false] (zsX8_isPossible_45 C _ _ _ _ _ _ _ v)
    · have v := v.2 c
      refine zg_aload_n (q := 31) C dX8_isPossible_30 rfl rfl ?_
      refine zg_iload (q := 33) C dX8_isPossible_31 rfl rfl ?_
      refine zg_iald (q := 34) C dX8_isPossible_33 rfl v.1 ?_
      have v := v.2
      refine zg_aload_n (q := 35) C dX8_isPossible_34 rfl rfl ?_
      refine zg_cV0I (q := 38) C mX8_squares vX8_squares lmX8_152 rfl (bX8).1 v.1 (Nat.le_of_ble_eq_true rfl) ⟨Nat.le_refl _, Nat.le_refl _⟩ dX8_isPossible_35 rfl v.2 (fun r4 h3 v => ?_)
      refine zg_icmp_ge (t := 45) (q := 41) C dX8_isPossible_38 (by decide) rfl (fun c => ?_) (fun c => ?_)
      · have v := v.1 c
        exact zg_mask [true, true, true, true, true, true, false, false] (zsX8_isPossible_45 C _ _ _ _ _ _ _ v)
      · have v := v.2 c
        refine zg_iconst (v := 1) (q := 42) C dX8_isPossible_41 (by decide) rfl ?_
        refine zg_goto (t := 46) C dX8_isPossible_42 (by decide) ?_
        exact zg_mask [true, true, true, true, true, true, false, false] (zsX8_isPossible_46 C _ _ _ _ _ _ _ _ v)
theorem rnX8_isPossible {E : Wd} {d : Nat} {a0 : Nat} {a1 : Nat} {x2 : Int32} {h : Hp} {Q : Int32 → Hp → Prop} (k : ∀ (K13 : Nat → Nat → Int32 → Int32 → Int32 → Int32 → Hp → Prop),(∀ (a0 : Nat) (a1 : Nat) (x2 : Int32) (x3 : Int32) (x4 : Int32) (x5 : Int32) h, vcX8_isPossible_13 E d K13 a0 a1 x2 x3 x4 x5 h Q → K13 a0 a1 x2 x3 x4 x5 h) → vcX8_isPossible_0 E d K13 a0 a1 x2 h Q) : OkI E YX8_isPossible (d + 1) [.ref a0, .ref a1, .int x2] h Q :=
  zz_body2 (r := 5) mX8_isPossible (zc_a (zc_a (zc_i zc_n))) (Nat.le_of_ble_eq_true rfl) (fun X C => zsX8_isPossible_0 C a0 a1 x2 h (k (zkX8_isPossible_13 E X) (fun a0 a1 x2 x3 x4 x5 h v => zsX8_isPossible_13 C a0 a1 x2 x3 x4 x5 h v)))
def vcX8_manAt_0 (E : Wd) (d : Nat) (K6 : Nat → Nat → Int32 → Int32 → Int32 → Hp → Prop) (a0 : Nat) (a1 : Nat) (x2 : Int32) (h : Hp) (Q : Int32 → Hp → Prop) : Prop :=
  K6 a0 a1 x2 ((-5)) 0 h
def vcX8_manAt_6 (E : Wd) (d : Nat) (K6 : Nat → Nat → Int32 → Int32 → Int32 → Hp → Prop) (a0 : Nat) (a1 : Nat) (x2 : Int32) (x3 : Int32) (x4 : Int32) (h : Hp) (Q : Int32 → Hp → Prop) : Prop :=
  okA h a0 8 4 ∧ okR E h (fA h a0 4) 0 2 ∧ ((gA h (fA h a0 4) 2) ≤ x4 → Q x3 h) ∧ (¬ (gA h (fA h a0 4) 2) ≤ x4 → okR E h a1 0 x4 ∧ (¬ (gA h a1 x4) = x2 → K6 a0 a1 x2 x3 (x4 + 1) h) ∧ ((gA h a1 x4) = x2 → K6 a0 a1 x2 x4 (x4 + 1) h))
def zkX8_manAt_6 (E : Wd) (X : Mx) : Nat → Nat → Int32 → Int32 → Int32 → Hp → Prop := fun a0 a1 x2 x3 x4 h => GG E X 5 0 0 6 [some (.ref a0), some (.ref a1), some (.int x2), some (.int x3), some (.int x4)] [] h
set_option maxRecDepth 100000 in
set_option maxHeartbeats 4000000 in
theorem zsX8_manAt_0 {E : Wd} {X : Mx} {d : Nat} {Q : Int32 → Hp → Prop} (C : zz_C E X YX8_manAt d 0 0 (fun r h' => ∃ x : Int32, r = some (.int x) ∧ Q x h')) (a0 : Nat) (a1 : Nat) (x2 : Int32) (h : Hp) (v : vcX8_manAt_0 E d (zkX8_manAt_6 E X) a0 a1 x2 h Q) : GG E X 5 0 0 0 [some (.ref a0), some (.ref a1), some (.int x2), none, none] [] h := by
  refine zg_bipush (v := (-5)) (q := 2) C dX8_manAt_0 (by decide) rfl ?_
  refine zg_istore_n (q := 3) C dX8_manAt_2 (by decide) rfl ?_
  refine zg_iconst (v := 0) (q := 4) C dX8_manAt_3 (by decide) rfl ?_
  refine zg_istore (q := 6) C dX8_manAt_4 (by decide) rfl ?_
  exact zg_mask [true, true, true, true, true] v
set_option maxRecDepth 100000 in
set_option maxHeartbeats 4000000 in
theorem zsX8_manAt_6 {E : Wd} {X : Mx} {d : Nat} {Q : Int32 → Hp → Prop} (C : zz_C E X YX8_manAt d 0 0 (fun r h' => ∃ x : Int32, r = some (.int x) ∧ Q x h')) (a0 : Nat) (a1 : Nat) (x2 : Int32) (x3 : Int32) (x4 : Int32) (h : Hp) (v : vcX8_manAt_6 E d (zkX8_manAt_6 E X) a0 a1 x2 x3 x4 h Q) : GG E X 5 0 0 6 [some (.ref a0), some (.ref a1), some (.int x2), some (.int x3), some (.int x4)] [] h := by
  refine zg_iload (q := 8) C dX8_manAt_6 rfl rfl ?_
  refine zg_aload_n (q := 9) C dX8_manAt_8 rfl rfl ?_
  refine zg_get (j := 4) (q := 12) C bX8 (by decide) lkX8_13 dX8_manAt_9 rfl (okA.get v.1) ?_
  have v := v.2
  refine zg_iconst (v := 2) (q := 13) C dX8_manAt_12 (by decide) rfl ?_
  refine zg_iald (q := 14) C dX8_manAt_13 rfl v.1 ?_
  have v := v.2
  refine zg_icmp_ge (t := 38) (q := 17) C dX8_manAt_14 (by decide) rfl (fun c => ?_) (fun c => ?_)
  · have v := v.1 c
    refine zg_iload_n (q := 39) C dX8_manAt_38 rfl rfl ?_
    exact zg_iret C rfl dX8_manAt_39 ⟨Nat.le_refl _, Nat.le_refl _⟩ ⟨_, rfl, v⟩
  · have v := v.2 c
    refine zg_aload_n (q := 18) C dX8_manAt_17 rfl rfl ?_
    refine zg_iload (q := 20) C dX8_manAt_18 rfl rfl ?_
    refine zg_iald (q := 21) C dX8_manAt_20 rfl v.1 ?_
    have v := v.2
    refine zg_iload_n (q := 22) C dX8_manAt_21 rfl rfl ?_
    refine zg_icmp_ne (t := 30) (q := 25) C dX8_manAt_22 (by decide) rfl (fun c => ?_) (fun c => ?_)
    · have v := v.1 c
      refine zg_iload_n (q := 31) C dX8_manAt_30 rfl rfl ?_
      refine zg_istore_n (q := 32) C dX8_manAt_31 (by decide) rfl ?_
      refine zg_iinc (v := 1) (q := 35) C dX8_manAt_32 rfl (by decide) (by decide) rfl ?_
      refine zg_goto (t := 6) C dX8_manAt_35 (by decide) ?_
      exact zg_mask [true, true, true, true, true] v
    · have v := v.2 c
      refine zg_iload (q := 27) C dX8_manAt_25 rfl rfl ?_
      refine zg_goto (t := 31) C dX8_manAt_27 (by decide) ?_
      refine zg_istore_n (q := 32) C dX8_manAt_31 (by decide) rfl ?_
      refine zg_iinc (v := 1) (q := 35) C dX8_manAt_32 rfl (by decide) (by decide) rfl ?_
      refine zg_goto (t := 6) C dX8_manAt_35 (by decide) ?_
      exact zg_mask [true, true, true, true, true] v
theorem rnX8_manAt {E : Wd} {d : Nat} {a0 : Nat} {a1 : Nat} {x2 : Int32} {h : Hp} {Q : Int32 → Hp → Prop} (k : ∀ (K6 : Nat → Nat → Int32 → Int32 → Int32 → Hp → Prop),(∀ (a0 : Nat) (a1 : Nat) (x2 : Int32) (x3 : Int32) (x4 : Int32) h, vcX8_manAt_6 E d K6 a0 a1 x2 x3 x4 h Q → K6 a0 a1 x2 x3 x4 h) → vcX8_manAt_0 E d K6 a0 a1 x2 h Q) : OkI E YX8_manAt d [.ref a0, .ref a1, .int x2] h Q :=
  zz_body2 (r := 2) mX8_manAt (zc_a (zc_a (zc_i zc_n))) (Nat.le_of_ble_eq_true rfl) (fun X C => zsX8_manAt_0 C a0 a1 x2 h (k (zkX8_manAt_6 E X) (fun a0 a1 x2 x3 x4 h v => zsX8_manAt_6 C a0 a1 x2 x3 x4 h v)))
def vcX8_tryMove_196 (E : Wd) (d : Nat) (x2 : Int32) (x3 : Int32) (a5 : Nat) (x6 : Int32) (x7 : Int32) (h : Hp) (Q : Hp → Prop) : Prop :=
  okR E h a5 0 x2 ∧ ∀ h1, h1 = sA h a5 x2 x6 → (x7 < (0 : Int32) → Q h1) ∧ (¬ x7 < (0 : Int32) → okR E h1 a5 0 x7 ∧ ∀ h2, h2 = sA h1 a5 x7 x3 → Q h2)
def vcX8_tryMove_117 (E : Wd) (d : Nat) (a0 : Nat) (x1 : Int32) (x2 : Int32) (x3 : Int32) (x4 : Int32) (a5 : Nat) (x6 : Int32) (x7 : Int32) (h : Hp) (Q : Hp → Prop) : Prop :=
  isO h a0 8 ∧ OkI E YX8_isInCheck d [.ref a0, .ref a5, .int x4] h (fun r2 h1 => (¬ r2 = (0 : Int32) → vcX8_tryMove_196 E d x2 x3 a5 x6 x7 h1 Q) ∧ (r2 = (0 : Int32) → okA h1 a0 8 9 ∧ okR E h1 (fA h1 a0 9) 0 x1 ∧ okA h1 a0 8 10 ∧ okW E h1 (fA h1 a0 10) x1 ∧ okR E h1 (gW h1 (fA h1 a0 10) x1) 0 (gA h1 (fA h1 a0 9) x1) ∧ ∀ h3, h3 = sA h1 (gW h1 (fA h1 a0 10) x1) (gA h1 (fA h1 a0 9) x1) x2 → okA h3 a0 8 11 ∧ okW E h3 (fA h3 a0 11) x1 ∧ okR E h3 (gW h3 (fA h3 a0 11) x1) 0 (gA h1 (fA h1 a0 9) x1) ∧ ∀ h4, h4 = sA h3 (gW h3 (fA h3 a0 11) x1) (gA h1 (fA h1 a0 9) x1) x3 → okA h4 a0 8 12 ∧ okW E h4 (fA h4 a0 12) x1 ∧ okR E h4 (gW h4 (fA h4 a0 12) x1) 0 (gA h1 (fA h1 a0 9) x1) ∧ ∀ h5, h5 = sA h4 (gW h4 (fA h4 a0 12) x1) (gA h1 (fA h1 a0 9) x1) x7 → okA h5 a0 8 13 ∧ okW E h5 (fA h5 a0 13) x1 ∧ isO h5 a0 8 ∧ OkI E YX8_indexOf d [.ref a0, .ref a5, .int ((1 : Int32) - x4)] h5 (fun r7 h6 => okR E h6 (gW h5 (fA h5 a0 13) x1) 0 (gA h1 (fA h1 a0 9) x1) ∧ ∀ h8, h8 = sA h6 (gW h5 (fA h5 a0 13) x1) (gA h1 (fA h1 a0 9) x1) r7 → okA h8 a0 8 9 ∧ okR E h8 (fA h8 a0 9) 0 x1 ∧ okR E h8 (fA h8 a0 9) 0 x1 ∧ ∀ h9, h9 = sA h8 (fA h8 a0 9) x1 ((gA h8 (fA h8 a0 9) x1) + (1 : Int32)) → vcX8_tryMove_196 E d x2 x3 a5 x6 x7 h9 Q)))
def vcX8_tryMove_91 (E : Wd) (d : Nat) (a0 : Nat) (x1 : Int32) (x2 : Int32) (x3 : Int32) (x4 : Int32) (a5 : Nat) (x6 : Int32) (x7 : Int32) (s0 : Nat) (s1 : Int32) (s2 : Int32) (s3 : Int32) (s4 : Int32) (s5 : Int32) (h : Hp) (Q : Hp → Prop) : Prop :=
  isO h s0 8 ∧ OkI E YX8_reaches d [.ref s0, .int s1, .int s2, .int s3, .int s4, .int s5] h (fun r2 h1 => (¬ r2 = (0 : Int32) → okR E h1 a5 0 x2 ∧ ∀ h3, h3 = sA h1 a5 x2 x3 → (x7 < (0 : Int32) → vcX8_tryMove_117 E d a0 x1 x2 x3 x4 a5 x6 x7 h3 Q) ∧ (¬ x7 < (0 : Int32) → isO h3 a0 8 ∧ OkI E YX8_squares d [.ref a0] h3 (fun r5 h4 => okR E h4 a5 0 x7 ∧ ∀ h6, h6 = sA h4 a5 x7 r5 → vcX8_tryMove_117 E d a0 x1 x2 x3 x4 a5 x6 x7 h6 Q))) ∧ (r2 = (0 : Int32) → Q h1))
def vcX8_tryMove_63 (E : Wd) (d : Nat) (a0 : Nat) (x1 : Int32) (x2 : Int32) (x3 : Int32) (x4 : Int32) (a5 : Nat) (x6 : Int32) (x7 : Int32) (s0 : Int32) (h : Hp) (Q : Hp → Prop) : Prop :=
  (s0 = (0 : Int32) → Q h) ∧ (¬ s0 = (0 : Int32) → isO h a0 8 ∧ OkI E YX8_occupied d [.ref a0, .ref a5] h (fun r2 h1 => (x7 < (0 : Int32) → vcX8_tryMove_91 E d a0 x1 x2 x3 x4 a5 x6 x7 a0 x2 x6 x3 r2 0 h1 Q) ∧ (¬ x7 < (0 : Int32) → vcX8_tryMove_91 E d a0 x1 x2 x3 x4 a5 x6 x7 a0 x2 x6 x3 r2 1 h1 Q)))
def vcX8_tryMove_62 (E : Wd) (d : Nat) (a0 : Nat) (x1 : Int32) (x2 : Int32) (x3 : Int32) (x4 : Int32) (a5 : Nat) (x6 : Int32) (x7 : Int32) (h : Hp) (Q : Hp → Prop) : Prop :=
  vcX8_tryMove_63 E d a0 x1 x2 x3 x4 a5 x6 x7 0 h Q
def vcX8_tryMove_58 (E : Wd) (d : Nat) (a0 : Nat) (x1 : Int32) (x2 : Int32) (x3 : Int32) (x4 : Int32) (a5 : Nat) (x6 : Int32) (x7 : Int32) (h : Hp) (Q : Hp → Prop) : Prop :=
  vcX8_tryMove_63 E d a0 x1 x2 x3 x4 a5 x6 x7 1 h Q
def vcX8_tryMove_0 (E : Wd) (d : Nat) (a0 : Nat) (x1 : Int32) (x2 : Int32) (x3 : Int32) (x4 : Int32) (h : Hp) (Q : Hp → Prop) : Prop :=
  okA h a0 8 8 ∧ okW E h (fA h a0 8) x1 ∧ okR E h (gW h (fA h a0 8) x1) 0 x2 ∧ isO h a0 8 ∧ OkI E YX8_manAt d [.ref a0, .ref (gW h (fA h a0 8) x1), .int x3] h (fun r2 h1 => okA h1 a0 8 4 ∧ okR E h1 (fA h1 a0 4) 0 4 ∧ OkI E YX8_has d [.int (gA h1 (fA h1 a0 4) 4), .int x3] h1 (fun r4 h3 => (¬ r4 = (0 : Int32) → vcX8_tryMove_62 E d a0 x1 x2 x3 x4 (gW h (fA h a0 8) x1) (gA h (gW h (fA h a0 8) x1) x2) r2 h3 Q) ∧ (r4 = (0 : Int32) → (x3 = (gA h (gW h (fA h a0 8) x1) x2) → vcX8_tryMove_62 E d a0 x1 x2 x3 x4 (gW h (fA h a0 8) x1) (gA h (gW h (fA h a0 8) x1) x2) r2 h3 Q) ∧ (¬ x3 = (gA h (gW h (fA h a0 8) x1) x2) → (r2 < (0 : Int32) → vcX8_tryMove_58 E d a0 x1 x2 x3 x4 (gW h (fA h a0 8) x1) (gA h (gW h (fA h a0 8) x1) x2) r2 h3 Q) ∧ (¬ r2 < (0 : Int32) → isO h3 a0 8 ∧ OkI E YX8_isOf d [.ref a0, .int r2, .int x4] h3 (fun r6 h5 => (¬ r6 = (0 : Int32) → vcX8_tryMove_62 E d a0 x1 x2 x3 x4 (gW h (fA h a0 8) x1) (gA h (gW h (fA h a0 8) x1) x2) r2 h5 Q) ∧ (r6 = (0 : Int32) → vcX8_tryMove_58 E d a0 x1 x2 x3 x4 (gW h (fA h a0 8) x1) (gA h (gW h (fA h a0 8) x1) x2) r2 h5 Q)))))))
set_option maxRecDepth 100000 in
set_option maxHeartbeats 4000000 in
theorem zsX8_tryMove_196 {E : Wd} {X : Mx} {d : Nat} {Q : Hp → Prop} (C : zz_C E X YX8_tryMove (d + 1) 0 0 (fun r h' => r = none ∧ Q h')) (x2 : Int32) (x3 : Int32) (a5 : Nat) (x6 : Int32) (x7 : Int32) (h : Hp) (v : vcX8_tryMove_196 E d x2 x3 a5 x6 x7 h Q) : GG E X 10 0 0 196 [none, none, some (.int x2), some (.int x3), none, some (.ref a5), some (.int x6), some (.int x7), none, none] [] h := by
  refine zg_aload (q := 198) C dX8_tryMove_196 rfl rfl ?_
  refine zg_iload_n (q := 199) C dX8_tryMove_198 rfl rfl ?_
  refine zg_iload (q := 201) C dX8_tryMove_199 rfl rfl ?_
  refine zg_iast (q := 202) C dX8_tryMove_201 rfl v.1 ?_
  have v := v.2 _ rfl
  refine zg_iload (q := 204) C dX8_tryMove_202 rfl rfl ?_
  refine zg_if_lt (t := 213) (q := 207) C dX8_tryMove_204 (by decide) rfl (fun c => ?_) (fun c => ?_)
  · have v := v.1 c
    exact zg_vret C rfl dX8_tryMove_213 ⟨Nat.le_refl _, Nat.le_refl _⟩ ⟨rfl, v⟩
  · have v := v.2 c
    refine zg_aload (q := 209) C dX8_tryMove_207 rfl rfl ?_
    refine zg_iload (q := 211) C dX8_tryMove_209 rfl rfl ?_
    refine zg_iload_n (q := 212) C dX8_tryMove_211 rfl rfl ?_
    refine zg_iast (q := 213) C dX8_tryMove_212 rfl v.1 ?_
    have v := v.2 _ rfl
    exact zg_vret C rfl dX8_tryMove_213 ⟨Nat.le_refl _, Nat.le_refl _⟩ ⟨rfl, v⟩
set_option maxRecDepth 100000 in
set_option maxHeartbeats 4000000 in
theorem zsX8_tryMove_117 {E : Wd} {X : Mx} {d : Nat} {Q : Hp → Prop} (C : zz_C E X YX8_tryMove (d + 1) 0 0 (fun r h' => r = none ∧ Q h')) (a0 : Nat) (x1 : Int32) (x2 : Int32) (x3 : Int32) (x4 : Int32) (a5 : Nat) (x6 : Int32) (x7 : Int32) (h : Hp) (v : vcX8_tryMove_117 E d a0 x1 x2 x3 x4 a5 x6 x7 h Q) : GG E X 10 0 0 117 [some (.ref a0), some (.int x1), some (.int x2), some (.int x3), some (.int x4), some (.ref a5), some (.int x6), some (.int x7), none, none] [] h := by
  refine zg_aload_n (q := 118) C dX8_tryMove_117 rfl rfl ?_
  refine zg_aload (q := 120) C dX8_tryMove_118 rfl rfl ?_
  refine zg_iload (q := 122) C dX8_tryMove_120 rfl rfl ?_
  refine zg_cV2I (q := 125) C mX8_isInCheck vX8_isInCheck lmX8_191 rfl (bX8).1 v.1 (Nat.le_of_ble_eq_true rfl) ⟨Nat.le_refl _, Nat.le_refl _⟩ dX8_tryMove_122 rfl v.2 (fun r2 h1 v => ?_)
  refine zg_if_ne (t := 196) (q := 128) C dX8_tryMove_125 (by decide) rfl (fun c => ?_) (fun c => ?_)
  · have v := v.1 c
    exact zg_mask [false, false, true, true, false, true, true, true, false, false] (zsX8_tryMove_196 C _ _ _ _ _ _ v)
  · have v := v.2 c
    refine zg_aload_n (q := 129) C dX8_tryMove_128 rfl rfl ?_
    refine zg_get (j := 9) (q := 132) C bX8 (by decide) lkX8_27 dX8_tryMove_129 rfl (okA.get v.1) ?_
    have v := v.2
    refine zg_iload_n (q := 133) C dX8_tryMove_132 rfl rfl ?_
    refine zg_iald (q := 134) C dX8_tryMove_133 rfl v.1 ?_
    have v := v.2
    refine zg_istore (q := 136) C dX8_tryMove_134 (by decide) rfl ?_
    refine zg_aload_n (q := 137) C dX8_tryMove_136 rfl rfl ?_
    refine zg_get (j := 10) (q := 140) C bX8 (by decide) lkX8_30 dX8_tryMove_137 rfl (okA.get v.1) ?_
    have v := v.2
    refine zg_iload_n (q := 141) C dX8_tryMove_140 rfl rfl ?_
    refine zg_aald (q := 142) C dX8_tryMove_141 rfl v.1 ?_
    have v := v.2
    refine zg_iload (q := 144) C dX8_tryMove_142 rfl rfl ?_
    refine zg_iload_n (q := 145) C dX8_tryMove_144 rfl rfl ?_
    refine zg_iast (q := 146) C dX8_tryMove_145 rfl v.1 ?_
    have v := v.2 _ rfl
    refine zg_aload_n (q := 147) C dX8_tryMove_146 rfl rfl ?_
    refine zg_get (j := 11) (q := 150) C bX8 (by decide) lkX8_33 dX8_tryMove_147 rfl (okA.get v.1) ?_
    have v := v.2
    refine zg_iload_n (q := 151) C dX8_tryMove_150 rfl rfl ?_
    refine zg_aald (q := 152) C dX8_tryMove_151 rfl v.1 ?_
    have v := v.2
    refine zg_iload (q := 154) C dX8_tryMove_152 rfl rfl ?_
    refine zg_iload_n (q := 155) C dX8_tryMove_154 rfl rfl ?_
    refine zg_iast (q := 156) C dX8_tryMove_155 rfl v.1 ?_
    have v := v.2 _ rfl
    refine zg_aload_n (q := 157) C dX8_tryMove_156 rfl rfl ?_
    refine zg_get (j := 12) (q := 160) C bX8 (by decide) lkX8_36 dX8_tryMove_157 rfl (okA.get v.1) ?_
    have v := v.2
    refine zg_iload_n (q := 161) C dX8_tryMove_160 rfl rfl ?_
    refine zg_aald (q := 162) C dX8_tryMove_161 rfl v.1 ?_
    have v := v.2
    refine zg_iload (q := 164) C dX8_tryMove_162 rfl rfl ?_
    refine zg_iload (q := 166) C dX8_tryMove_164 rfl rfl ?_
    refine zg_iast (q := 167) C dX8_tryMove_166 rfl v.1 ?_
    have v := v.2 _ rfl
    refine zg_aload_n (q := 168) C dX8_tryMove_167 rfl rfl ?_
    refine zg_get (j := 13) (q := 171) C bX8 (by decide) lkX8_39 dX8_tryMove_168 rfl (okA.get v.1) ?_
    have v := v.2
    refine zg_iload_n (q := 172) C dX8_tryMove_171 rfl rfl ?_
    refine zg_aald (q := 173) C dX8_tryMove_172 rfl v.1 ?_
    have v := v.2
    refine zg_iload (q := 175) C dX8_tryMove_173 rfl rfl ?_
    refine zg_aload_n (q := 176) C dX8_tryMove_175 rfl rfl ?_
    refine zg_aload (q := 178) C dX8_tryMove_176 rfl rfl ?_
    refine zg_iconst (v := 1) (q := 179) C dX8_tryMove_178 (by decide) rfl ?_
    refine zg_iload (q := 181) C dX8_tryMove_179 rfl rfl ?_
    refine zg_isub (q := 182) C dX8_tryMove_181 rfl ?_
    refine zg_cV2I (q := 185) C mX8_indexOf vX8_indexOf lmX8_199 rfl (bX8).1 v.1 (Nat.le_of_ble_eq_true rfl) ⟨Nat.le_refl _, Nat.le_refl _⟩ dX8_tryMove_182 rfl v.2 (fun r7 h6 v => ?_)
    refine zg_iast (q := 186) C dX8_tryMove_185 rfl v.1 ?_
    have v := v.2 _ rfl
    refine zg_aload_n (q := 187) C dX8_tryMove_186 rfl rfl ?_
    refine zg_get (j := 9) (q := 190) C bX8 (by decide) lkX8_27 dX8_tryMove_187 rfl (okA.get v.1) ?_
    have v := v.2
    refine zg_iload_n (q := 191) C dX8_tryMove_190 rfl rfl ?_
    refine zg_dup2 (q := 192) C dX8_tryMove_191 rfl rfl rfl ?_
    refine zg_iald (q := 193) C dX8_tryMove_192 rfl v.1 ?_
    have v := v.2
    refine zg_iconst (v := 1) (q := 194) C dX8_tryMove_193 (by decide) rfl ?_
    refine zg_iadd (q := 195) C dX8_tryMove_194 rfl ?_
    refine zg_iast (q := 196) C dX8_tryMove_195 rfl v.1 ?_
    have v := v.2 _ rfl
    exact zg_mask [false, false, true, true, false, true, true, true, false, false] (zsX8_tryMove_196 C _ _ _ _ _ _ v)
set_option maxRecDepth 100000 in
set_option maxHeartbeats 4000000 in
theorem zsX8_tryMove_91 {E : Wd} {X : Mx} {d : Nat} {Q : Hp → Prop} (C : zz_C E X YX8_tryMove (d + 1) 0 0 (fun r h' => r = none ∧ Q h')) (a0 : Nat) (x1 : Int32) (x2 : Int32) (x3 : Int32) (x4 : Int32) (a5 : Nat) (x6 : Int32) (x7 : Int32) (s0 : Nat) (s1 : Int32) (s2 : Int32) (s3 : Int32) (s4 : Int32) (s5 : Int32) (h : Hp) (v : vcX8_tryMove_91 E d a0 x1 x2 x3 x4 a5 x6 x7 s0 s1 s2 s3 s4 s5 h Q) : GG E X 10 0 0 91 [some (.ref a0), some (.int x1), some (.int x2), some (.int x3), some (.int x4), some (.ref a5), some (.int x6), some (.int x7), none, none] [.int s5, .int s4, .int s3, .int s2, .int s1, .ref s0] h := by
  refine zg_cV5I (q := 94) C mX8_reaches vX8_reaches lmX8_180 rfl (bX8).1 v.1 (Nat.le_of_ble_eq_true rfl) ⟨Nat.le_refl _, Nat.le_refl _⟩ dX8_tryMove_91 rfl v.2 (fun r2 h1 v => ?_)
  refine zg_if_ne (t := 98) (q := 97) C dX8_tryMove_94 (by decide) rfl (fun c => ?_) (fun c => ?_)
  · have v := v.1 c
    refine zg_aload (q := 100) C dX8_tryMove_98 rfl rfl ?_
    refine zg_iload_n (q := 101) C dX8_tryMove_100 rfl rfl ?_
    refine zg_iload_n (q := 102) C dX8_tryMove_101 rfl rfl ?_
    refine zg_iast (q := 103) C dX8_tryMove_102 rfl v.1 ?_
    have v := v.2 _ rfl
    refine zg_iload (q := 105) C dX8_tryMove_103 rfl rfl ?_
    refine zg_if_lt (t := 117) (q := 108) C dX8_tryMove_105 (by decide) rfl (fun c => ?_) (fun c => ?_)
    · have v := v.1 c
      exact zg_mask [true, true, true, true, true, true, true, true, false, false] (zsX8_tryMove_117 C _ _ _ _ _ _ _ _ _ v)
    · have v := v.2 c
      refine zg_aload (q := 110) C dX8_tryMove_108 rfl rfl ?_
      refine zg_iload (q := 112) C dX8_tryMove_110 rfl rfl ?_
      refine zg_aload_n (q := 113) C dX8_tryMove_112 rfl rfl ?_
      refine zg_cV0I (q := 116) C mX8_squares vX8_squares lmX8_152 rfl (bX8).1 v.1 (Nat.le_of_ble_eq_true rfl) ⟨Nat.le_refl _, Nat.le_refl _⟩ dX8_tryMove_113 rfl v.2 (fun r5 h4 v => ?_)
      refine zg_iast (q := 117) C dX8_tryMove_116 rfl v.1 ?_
      have v := v.2 _ rfl
      exact zg_mask [true, true, true, true, true, true, true, true, false, false] (zsX8_tryMove_117 C _ _ _ _ _ _ _ _ _ v)
  · have v := v.2 c
    exact zg_vret C rfl dX8_tryMove_97 ⟨Nat.le_refl _, Nat.le_refl _⟩ ⟨rfl, v⟩
set_option maxRecDepth 100000 in
set_option maxHeartbeats 4000000 in
theorem zsX8_tryMove_63 {E : Wd} {X : Mx} {d : Nat} {Q : Hp → Prop} (C : zz_C E X YX8_tryMove (d + 1) 0 0 (fun r h' => r = none ∧ Q h')) (a0 : Nat) (x1 : Int32) (x2 : Int32) (x3 : Int32) (x4 : Int32) (a5 : Nat) (x6 : Int32) (x7 : Int32) (s0 : Int32) (h : Hp) (v : vcX8_tryMove_63 E d a0 x1 x2 x3 x4 a5 x6 x7 s0 h Q) : GG E X 10 0 0 63 [some (.ref a0), some (.int x1), some (.int x2), some (.int x3), some (.int x4), some (.ref a5), some (.int x6), some (.int x7), none, none] [.int s0] h := by
  refine zg_istore (q := 65) C dX8_tryMove_63 (by decide) rfl ?_
  refine zg_iload (q := 67) C dX8_tryMove_65 rfl rfl ?_
  refine zg_if_eq (t := 97) (q := 70) C dX8_tryMove_67 (by decide) rfl (fun c => ?_) (fun c => ?_)
  · have v := v.1 c
    exact zg_vret C rfl dX8_tryMove_97 ⟨Nat.le_refl _, Nat.le_refl _⟩ ⟨rfl, v⟩
  · have v := v.2 c
    refine zg_aload_n (q := 71) C dX8_tryMove_70 rfl rfl ?_
    refine zg_iload_n (q := 72) C dX8_tryMove_71 rfl rfl ?_
    refine zg_iload (q := 74) C dX8_tryMove_72 rfl rfl ?_
    refine zg_iload_n (q := 75) C dX8_tryMove_74 rfl rfl ?_
    refine zg_aload_n (q := 76) C dX8_tryMove_75 rfl rfl ?_
    refine zg_aload (q := 78) C dX8_tryMove_76 rfl rfl ?_
    refine zg_cV1I (q := 81) C mX8_occupied vX8_occupied lmX8_173 rfl (bX8).1 v.1 (Nat.le_of_ble_eq_true rfl) ⟨Nat.le_refl _, Nat.le_refl _⟩ dX8_tryMove_78 rfl v.2 (fun r2 h1 v => ?_)
    refine zg_iload (q := 83) C dX8_tryMove_81 rfl rfl ?_
    refine zg_if_lt (t := 90) (q := 86) C dX8_tryMove_83 (by decide) rfl (fun c => ?_) (fun c => ?_)
    · have v := v.1 c
      refine zg_iconst (v := 0) (q := 91) C dX8_tryMove_90 (by decide) rfl ?_
      exact zg_mask [true, true, true, true, true, true, true, true, false, false] (zsX8_tryMove_91 C _ _ _ _ _ _ _ _ _ _ _ _ _ _ _ v)
    · have v := v.2 c
      refine zg_iconst (v := 1) (q := 87) C dX8_tryMove_86 (by decide) rfl ?_
      refine zg_goto (t := 91) C dX8_tryMove_87 (by decide) ?_
      exact zg_mask [true, true, true, true, true, true, true, true, false, false] (zsX8_tryMove_91 C _ _ _ _ _ _ _ _ _ _ _ _ _ _ _ v)
set_option maxRecDepth 100000 in
set_option maxHeartbeats 4000000 in
theorem zsX8_tryMove_62 {E : Wd} {X : Mx} {d : Nat} {Q : Hp → Prop} (C : zz_C E X YX8_tryMove (d + 1) 0 0 (fun r h' => r = none ∧ Q h')) (a0 : Nat) (x1 : Int32) (x2 : Int32) (x3 : Int32) (x4 : Int32) (a5 : Nat) (x6 : Int32) (x7 : Int32) (h : Hp) (v : vcX8_tryMove_62 E d a0 x1 x2 x3 x4 a5 x6 x7 h Q) : GG E X 10 0 0 62 [some (.ref a0), some (.int x1), some (.int x2), some (.int x3), some (.int x4), some (.ref a5), some (.int x6), some (.int x7), none, none] [] h := by
  refine zg_iconst (v := 0) (q := 63) C dX8_tryMove_62 (by decide) rfl ?_
  exact zg_mask [true, true, true, true, true, true, true, true, false, false] (zsX8_tryMove_63 C _ _ _ _ _ _ _ _ _ _ v)
set_option maxRecDepth 100000 in
set_option maxHeartbeats 4000000 in
theorem zsX8_tryMove_58 {E : Wd} {X : Mx} {d : Nat} {Q : Hp → Prop} (C : zz_C E X YX8_tryMove (d + 1) 0 0 (fun r h' => r = none ∧ Q h')) (a0 : Nat) (x1 : Int32) (x2 : Int32) (x3 : Int32) (x4 : Int32) (a5 : Nat) (x6 : Int32) (x7 : Int32) (h : Hp) (v : vcX8_tryMove_58 E d a0 x1 x2 x3 x4 a5 x6 x7 h Q) : GG E X 10 0 0 58 [some (.ref a0), some (.int x1), some (.int x2), some (.int x3), some (.int x4), some (.ref a5), some (.int x6), some (.int x7), none, none] [] h := by
  refine zg_iconst (v := 1) (q := 59) C dX8_tryMove_58 (by decide) rfl ?_
  refine zg_goto (t := 63) C dX8_tryMove_59 (by decide) ?_
  exact zg_mask [true, true, true, true, true, true, true, true, false, false] (zsX8_tryMove_63 C _ _ _ _ _ _ _ _ _ _ v)
set_option maxRecDepth 100000 in
set_option maxHeartbeats 4000000 in
theorem zsX8_tryMove_0 {E : Wd} {X : Mx} {d : Nat} {Q : Hp → Prop} (C : zz_C E X YX8_tryMove (d + 1) 0 0 (fun r h' => r = none ∧ Q h')) (a0 : Nat) (x1 : Int32) (x2 : Int32) (x3 : Int32) (x4 : Int32) (h : Hp) (v : vcX8_tryMove_0 E d a0 x1 x2 x3 x4 h Q) : GG E X 10 0 0 0 [some (.ref a0), some (.int x1), some (.int x2), some (.int x3), some (.int x4), none, none, none, none, none] [] h := by
  refine zg_aload_n (q := 1) C dX8_tryMove_0 rfl rfl ?_
  refine zg_get (j := 8) (q := 4) C bX8 (by decide) lkX8_24 dX8_tryMove_1 rfl (okA.get v.1) ?_
  have v := v.2
  refine zg_iload_n (q := 5) C dX8_tryMove_4 rfl rfl ?_
  refine zg_aald (q := 6) C dX8_tryMove_5 rfl v.1 ?_
  have v := v.2
  refine zg_astore (q := 8) C dX8_tryMove_6 (by decide) rfl ?_
  refine zg_aload (q := 10) C dX8_tryMove_8 rfl rfl ?_
  refine zg_iload_n (q := 11) C dX8_tryMove_10 rfl rfl ?_
  refine zg_iald (q := 12) C dX8_tryMove_11 rfl v.1 ?_
  have v := v.2
  refine zg_istore (q := 14) C dX8_tryMove_12 (by decide) rfl ?_
  refine zg_aload_n (q := 15) C dX8_tryMove_14 rfl rfl ?_
  refine zg_aload (q := 17) C dX8_tryMove_15 rfl rfl ?_
  refine zg_iload_n (q := 18) C dX8_tryMove_17 rfl rfl ?_
  refine zg_cV2I (q := 21) C mX8_manAt vX8_manAt lmX8_195 rfl (bX8).1 v.1 (Nat.le_of_ble_eq_true rfl) ⟨Nat.le_refl _, Nat.le_refl _⟩ dX8_tryMove_18 rfl v.2 (fun r2 h1 v => ?_)
  refine zg_istore (q := 23) C dX8_tryMove_21 (by decide) rfl ?_
  refine zg_aload_n (q := 24) C dX8_tryMove_23 rfl rfl ?_
  refine zg_get (j := 4) (q := 27) C bX8 (by decide) lkX8_13 dX8_tryMove_24 rfl (okA.get v.1) ?_
  have v := v.2
  refine zg_iconst (v := 4) (q := 28) C dX8_tryMove_27 (by decide) rfl ?_
  refine zg_iald (q := 29) C dX8_tryMove_28 rfl v.1 ?_
  have v := v.2
  refine zg_iload_n (q := 30) C dX8_tryMove_29 rfl rfl ?_
  refine zg_cS2I (q := 33) C mX8_has tX8_has lmX8_164 rfl (Nat.le_of_ble_eq_true rfl) ⟨Nat.le_refl _, Nat.le_refl _⟩ dX8_tryMove_30 rfl v (fun r4 h3 v => ?_)
  refine zg_if_ne (t := 62) (q := 36) C dX8_tryMove_33 (by decide) rfl (fun c => ?_) (fun c => ?_)
  · have v := v.1 c
    exact zg_mask [true, true, true, true, true, true, true, true, false, false] (zsX8_tryMove_62 C _ _ _ _ _ _ _ _ _ v)
  · have v := v.2 c
    refine zg_iload_n (q := 37) C dX8_tryMove_36 rfl rfl ?_
    refine zg_iload (q := 39) C dX8_tryMove_37 rfl rfl ?_
    refine zg_icmp_eq (t := 62) (q := 42) C dX8_tryMove_39 (by decide) rfl (fun c => ?_) (fun c => ?_)
    · have v := v.1 c
      exact zg_mask [true, true, true, true, true, true, true, true, false, false] (zsX8_tryMove_62 C _ _ _ _ _ _ _ _ _ v)
    · have v := v.2 c
      refine zg_iload (q := 44) C dX8_tryMove_42 rfl rfl ?_
      refine zg_if_lt (t := 58) (q := 47) C dX8_tryMove_44 (by decide) rfl (fun c => ?_) (fun c => ?_)
      · have v := v.1 c
        exact zg_mask [true, true, true, true, true, true, true, true, false, false] (zsX8_tryMove_58 C _ _ _ _ _ _ _ _ _ v)
      · have v := v.2 c
        refine zg_aload_n (q := 48) C dX8_tryMove_47 rfl rfl ?_
        refine zg_iload (q := 50) C dX8_tryMove_48 rfl rfl ?_
        refine zg_iload (q := 52) C dX8_tryMove_50 rfl rfl ?_
        refine zg_cV2I (q := 55) C mX8_isOf vX8_isOf lmX8_177 rfl (bX8).1 v.1 (Nat.le_of_ble_eq_true rfl) ⟨Nat.le_refl _, Nat.le_refl _⟩ dX8_tryMove_52 rfl v.2 (fun r6 h5 v => ?_)
        refine zg_if_ne (t := 62) (q := 58) C dX8_tryMove_55 (by decide) rfl (fun c => ?_) (fun c => ?_)
        · have v := v.1 c
          exact zg_mask [true, true, true, true, true, true, true, true, false, false] (zsX8_tryMove_62 C _ _ _ _ _ _ _ _ _ v)
        · have v := v.2 c
          exact zg_mask [true, true, true, true, true, true, true, true, false, false] (zsX8_tryMove_58 C _ _ _ _ _ _ _ _ _ v)
theorem rnX8_tryMove {E : Wd} {d : Nat} {a0 : Nat} {x1 : Int32} {x2 : Int32} {x3 : Int32} {x4 : Int32} {h : Hp} {Q : Hp → Prop} (k : vcX8_tryMove_0 E d a0 x1 x2 x3 x4 h Q) : OkV E YX8_tryMove (d + 1) [.ref a0, .int x1, .int x2, .int x3, .int x4] h Q :=
  zz_body2 (r := 5) mX8_tryMove (zc_a (zc_i (zc_i (zc_i (zc_i zc_n))))) (Nat.le_of_ble_eq_true rfl) (fun X C => zsX8_tryMove_0 C a0 x1 x2 x3 x4 h k)
def vcX8_findMoves_0 (E : Wd) (d : Nat) (K25 : Nat → Int32 → Int32 → Int32 → Hp → Prop) (K39 : Nat → Int32 → Int32 → Int32 → Int32 → Hp → Prop) (a0 : Nat) (x1 : Int32) (x2 : Int32) (h : Hp) (Q : Hp → Prop) : Prop :=
  okA h a0 8 8 ∧ okW E h (fA h a0 8) x1 ∧ isO h a0 8 ∧ OkV E YX8_decode d [.ref a0, .int x2, .ref (gW h (fA h a0 8) x1)] h (fun h1 => (¬ (2 : Int32) = (0 : Int32)) ∧ okA h1 a0 8 9 ∧ okR E h1 (fA h1 a0 9) 0 x1 ∧ ∀ h2, h2 = sA h1 (fA h1 a0 9) x1 0 → K25 a0 x1 (x2 - x2 / (2 : Int32) * (2 : Int32)) 0 h2)
def vcX8_findMoves_25 (E : Wd) (d : Nat) (K25 : Nat → Int32 → Int32 → Int32 → Hp → Prop) (K39 : Nat → Int32 → Int32 → Int32 → Int32 → Hp → Prop) (a0 : Nat) (x1 : Int32) (x3 : Int32) (x4 : Int32) (h : Hp) (Q : Hp → Prop) : Prop :=
  okA h a0 8 4 ∧ okR E h (fA h a0 4) 0 2 ∧ ((gA h (fA h a0 4) 2) ≤ x4 → Q h) ∧ (¬ (gA h (fA h a0 4) 2) ≤ x4 → K39 a0 x1 x3 x4 0 h)
def vcX8_findMoves_39 (E : Wd) (d : Nat) (K25 : Nat → Int32 → Int32 → Int32 → Hp → Prop) (K39 : Nat → Int32 → Int32 → Int32 → Int32 → Hp → Prop) (a0 : Nat) (x1 : Int32) (x3 : Int32) (x4 : Int32) (x5 : Int32) (h : Hp) (Q : Hp → Prop) : Prop :=
  isO h a0 8 ∧ OkI E YX8_squares d [.ref a0] h (fun r2 h1 => (r2 ≤ x5 → K25 a0 x1 x3 (x4 + 1) h1) ∧ (¬ r2 ≤ x5 → isO h1 a0 8 ∧ OkI E YX8_isOf d [.ref a0, .int x4, .int x3] h1 (fun r4 h3 => (r4 = (0 : Int32) → K25 a0 x1 x3 (x4 + 1) h3) ∧ (¬ r4 = (0 : Int32) → okA h3 a0 8 8 ∧ okW E h3 (fA h3 a0 8) x1 ∧ okR E h3 (gW h3 (fA h3 a0 8) x1) 0 x4 ∧ isO h3 a0 8 ∧ OkI E YX8_squares d [.ref a0] h3 (fun r6 h5 => (r6 ≤ (gA h3 (gW h3 (fA h3 a0 8) x1) x4) → K25 a0 x1 x3 (x4 + 1) h5) ∧ (¬ r6 ≤ (gA h3 (gW h3 (fA h3 a0 8) x1) x4) → isO h5 a0 8 ∧ OkV E YX8_tryMove d [.ref a0, .int x1, .int x4, .int x5, .int x3] h5 (fun h7 => K39 a0 x1 x3 x4 (x5 + 1) h7)))))))
def zkX8_findMoves_25 (E : Wd) (X : Mx) : Nat → Int32 → Int32 → Int32 → Hp → Prop := fun a0 x1 x3 x4 h => GG E X 6 0 0 25 [some (.ref a0), some (.int x1), none, some (.int x3), some (.int x4), none] [] h
def zkX8_findMoves_39 (E : Wd) (X : Mx) : Nat → Int32 → Int32 → Int32 → Int32 → Hp → Prop := fun a0 x1 x3 x4 x5 h => GG E X 6 0 0 39 [some (.ref a0), some (.int x1), none, some (.int x3), some (.int x4), some (.int x5)] [] h
set_option maxRecDepth 100000 in
set_option maxHeartbeats 4000000 in
theorem zsX8_findMoves_0 {E : Wd} {X : Mx} {d : Nat} {Q : Hp → Prop} (C : zz_C E X YX8_findMoves (d + 1) 0 0 (fun r h' => r = none ∧ Q h')) (a0 : Nat) (x1 : Int32) (x2 : Int32) (h : Hp) (v : vcX8_findMoves_0 E d (zkX8_findMoves_25 E X) (zkX8_findMoves_39 E X) a0 x1 x2 h Q) : GG E X 6 0 0 0 [some (.ref a0), some (.int x1), some (.int x2), none, none, none] [] h := by
  refine zg_aload_n (q := 1) C dX8_findMoves_0 rfl rfl ?_
  refine zg_iload_n (q := 2) C dX8_findMoves_1 rfl rfl ?_
  refine zg_aload_n (q := 3) C dX8_findMoves_2 rfl rfl ?_
  refine zg_get (j := 8) (q := 6) C bX8 (by decide) lkX8_24 dX8_findMoves_3 rfl (okA.get v.1) ?_
  have v := v.2
  refine zg_iload_n (q := 7) C dX8_findMoves_6 rfl rfl ?_
  refine zg_aald (q := 8) C dX8_findMoves_7 rfl v.1 ?_
  have v := v.2
  refine zg_cV2V (q := 11) C mX8_decode vX8_decode lmX8_201 rfl (bX8).1 v.1 (Nat.le_of_ble_eq_true rfl) ⟨Nat.le_refl _, Nat.le_refl _⟩ dX8_findMoves_8 rfl v.2 (fun h1 v => ?_)
  refine zg_iload_n (q := 12) C dX8_findMoves_11 rfl rfl ?_
  refine zg_iconst (v := 2) (q := 13) C dX8_findMoves_12 (by decide) rfl ?_
  refine zg_irem (q := 14) C dX8_findMoves_13 v.1 rfl ?_
  have v := v.2
  refine zg_istore_n (q := 15) C dX8_findMoves_14 (by decide) rfl ?_
  refine zg_aload_n (q := 16) C dX8_findMoves_15 rfl rfl ?_
  refine zg_get (j := 9) (q := 19) C bX8 (by decide) lkX8_27 dX8_findMoves_16 rfl (okA.get v.1) ?_
  have v := v.2
  refine zg_iload_n (q := 20) C dX8_findMoves_19 rfl rfl ?_
  refine zg_iconst (v := 0) (q := 21) C dX8_findMoves_20 (by decide) rfl ?_
  refine zg_iast (q := 22) C dX8_findMoves_21 rfl v.1 ?_
  have v := v.2 _ rfl
  refine zg_iconst (v := 0) (q := 23) C dX8_findMoves_22 (by decide) rfl ?_
  refine zg_istore (q := 25) C dX8_findMoves_23 (by decide) rfl ?_
  exact zg_mask [true, true, false, true, true, false] v
set_option maxRecDepth 100000 in
set_option maxHeartbeats 4000000 in
theorem zsX8_findMoves_25 {E : Wd} {X : Mx} {d : Nat} {Q : Hp → Prop} (C : zz_C E X YX8_findMoves (d + 1) 0 0 (fun r h' => r = none ∧ Q h')) (a0 : Nat) (x1 : Int32) (x3 : Int32) (x4 : Int32) (h : Hp) (v : vcX8_findMoves_25 E d (zkX8_findMoves_25 E X) (zkX8_findMoves_39 E X) a0 x1 x3 x4 h Q) : GG E X 6 0 0 25 [some (.ref a0), some (.int x1), none, some (.int x3), some (.int x4), none] [] h := by
  refine zg_iload (q := 27) C dX8_findMoves_25 rfl rfl ?_
  refine zg_aload_n (q := 28) C dX8_findMoves_27 rfl rfl ?_
  refine zg_get (j := 4) (q := 31) C bX8 (by decide) lkX8_13 dX8_findMoves_28 rfl (okA.get v.1) ?_
  have v := v.2
  refine zg_iconst (v := 2) (q := 32) C dX8_findMoves_31 (by decide) rfl ?_
  refine zg_iald (q := 33) C dX8_findMoves_32 rfl v.1 ?_
  have v := v.2
  refine zg_icmp_ge (t := 96) (q := 36) C dX8_findMoves_33 (by decide) rfl (fun c => ?_) (fun c => ?_)
  · have v := v.1 c
    exact zg_vret C rfl dX8_findMoves_96 ⟨Nat.le_refl _, Nat.le_refl _⟩ ⟨rfl, v⟩
  · have v := v.2 c
    refine zg_iconst (v := 0) (q := 37) C dX8_findMoves_36 (by decide) rfl ?_
    refine zg_istore (q := 39) C dX8_findMoves_37 (by decide) rfl ?_
    exact zg_mask [true, true, false, true, true, true] v
set_option maxRecDepth 100000 in
set_option maxHeartbeats 4000000 in
theorem zsX8_findMoves_39 {E : Wd} {X : Mx} {d : Nat} {Q : Hp → Prop} (C : zz_C E X YX8_findMoves (d + 1) 0 0 (fun r h' => r = none ∧ Q h')) (a0 : Nat) (x1 : Int32) (x3 : Int32) (x4 : Int32) (x5 : Int32) (h : Hp) (v : vcX8_findMoves_39 E d (zkX8_findMoves_25 E X) (zkX8_findMoves_39 E X) a0 x1 x3 x4 x5 h Q) : GG E X 6 0 0 39 [some (.ref a0), some (.int x1), none, some (.int x3), some (.int x4), some (.int x5)] [] h := by
  refine zg_iload (q := 41) C dX8_findMoves_39 rfl rfl ?_
  refine zg_aload_n (q := 42) C dX8_findMoves_41 rfl rfl ?_
  refine zg_cV0I (q := 45) C mX8_squares vX8_squares lmX8_152 rfl (bX8).1 v.1 (Nat.le_of_ble_eq_true rfl) ⟨Nat.le_refl _, Nat.le_refl _⟩ dX8_findMoves_42 rfl v.2 (fun r2 h1 v => ?_)
  refine zg_icmp_ge (t := 90) (q := 48) C dX8_findMoves_45 (by decide) rfl (fun c => ?_) (fun c => ?_)
  · have v := v.1 c
    refine zg_iinc (v := 1) (q := 93) C dX8_findMoves_90 rfl (by decide) (by decide) rfl ?_
    refine zg_goto (t := 25) C dX8_findMoves_93 (by decide) ?_
    exact zg_mask [true, true, false, true, true, false] v
  · have v := v.2 c
    refine zg_aload_n (q := 49) C dX8_findMoves_48 rfl rfl ?_
    refine zg_iload (q := 51) C dX8_findMoves_49 rfl rfl ?_
    refine zg_iload_n (q := 52) C dX8_findMoves_51 rfl rfl ?_
    refine zg_cV2I (q := 55) C mX8_isOf vX8_isOf lmX8_177 rfl (bX8).1 v.1 (Nat.le_of_ble_eq_true rfl) ⟨Nat.le_refl _, Nat.le_refl _⟩ dX8_findMoves_52 rfl v.2 (fun r4 h3 v => ?_)
    refine zg_if_eq (t := 90) (q := 58) C dX8_findMoves_55 (by decide) rfl (fun c => ?_) (fun c => ?_)
    · have v := v.1 c
      refine zg_iinc (v := 1) (q := 93) C dX8_findMoves_90 rfl (by decide) (by decide) rfl ?_
      refine zg_goto (t := 25) C dX8_findMoves_93 (by decide) ?_
      exact zg_mask [true, true, false, true, true, false] v
    · have v := v.2 c
      refine zg_aload_n (q := 59) C dX8_findMoves_58 rfl rfl ?_
      refine zg_get (j := 8) (q := 62) C bX8 (by decide) lkX8_24 dX8_findMoves_59 rfl (okA.get v.1) ?_
      have v := v.2
      refine zg_iload_n (q := 63) C dX8_findMoves_62 rfl rfl ?_
      refine zg_aald (q := 64) C dX8_findMoves_63 rfl v.1 ?_
      have v := v.2
      refine zg_iload (q := 66) C dX8_findMoves_64 rfl rfl ?_
      refine zg_iald (q := 67) C dX8_findMoves_66 rfl v.1 ?_
      have v := v.2
      refine zg_aload_n (q := 68) C dX8_findMoves_67 rfl rfl ?_
      refine zg_cV0I (q := 71) C mX8_squares vX8_squares lmX8_152 rfl (bX8).1 v.1 (Nat.le_of_ble_eq_true rfl) ⟨Nat.le_refl _, Nat.le_refl _⟩ dX8_findMoves_68 rfl v.2 (fun r6 h5 v => ?_)
      refine zg_icmp_ge (t := 90) (q := 74) C dX8_findMoves_71 (by decide) rfl (fun c => ?_) (fun c => ?_)
      · have v := v.1 c
        refine zg_iinc (v := 1) (q := 93) C dX8_findMoves_90 rfl (by decide) (by decide) rfl ?_
        refine zg_goto (t := 25) C dX8_findMoves_93 (by decide) ?_
        exact zg_mask [true, true, false, true, true, false] v
      · have v := v.2 c
        refine zg_aload_n (q := 75) C dX8_findMoves_74 rfl rfl ?_
        refine zg_iload_n (q := 76) C dX8_findMoves_75 rfl rfl ?_
        refine zg_iload (q := 78) C dX8_findMoves_76 rfl rfl ?_
        refine zg_iload (q := 80) C dX8_findMoves_78 rfl rfl ?_
        refine zg_iload_n (q := 81) C dX8_findMoves_80 rfl rfl ?_
        refine zg_cV4V (q := 84) C mX8_tryMove vX8_tryMove lmX8_205 rfl (bX8).1 v.1 (Nat.le_of_ble_eq_true rfl) ⟨Nat.le_refl _, Nat.le_refl _⟩ dX8_findMoves_81 rfl v.2 (fun h7 v => ?_)
        refine zg_iinc (v := 1) (q := 87) C dX8_findMoves_84 rfl (by decide) (by decide) rfl ?_
        refine zg_goto (t := 39) C dX8_findMoves_87 (by decide) ?_
        exact zg_mask [true, true, false, true, true, true] v
theorem rnX8_findMoves {E : Wd} {d : Nat} {a0 : Nat} {x1 : Int32} {x2 : Int32} {h : Hp} {Q : Hp → Prop} (k : ∀ (K25 : Nat → Int32 → Int32 → Int32 → Hp → Prop) (K39 : Nat → Int32 → Int32 → Int32 → Int32 → Hp → Prop),(∀ (a0 : Nat) (x1 : Int32) (x3 : Int32) (x4 : Int32) h, vcX8_findMoves_25 E d K25 K39 a0 x1 x3 x4 h Q → K25 a0 x1 x3 x4 h) → (∀ (a0 : Nat) (x1 : Int32) (x3 : Int32) (x4 : Int32) (x5 : Int32) h, vcX8_findMoves_39 E d K25 K39 a0 x1 x3 x4 x5 h Q → K39 a0 x1 x3 x4 x5 h) → vcX8_findMoves_0 E d K25 K39 a0 x1 x2 h Q) : OkV E YX8_findMoves (d + 1) [.ref a0, .int x1, .int x2] h Q :=
  zz_body2 (r := 3) mX8_findMoves (zc_a (zc_i (zc_i zc_n))) (Nat.le_of_ble_eq_true rfl) (fun X C => zsX8_findMoves_0 C a0 x1 x2 h (k (zkX8_findMoves_25 E X) (zkX8_findMoves_39 E X) (fun a0 x1 x3 x4 h v => zsX8_findMoves_25 C a0 x1 x3 x4 h v) (fun a0 x1 x3 x4 x5 h v => zsX8_findMoves_39 C a0 x1 x3 x4 x5 h v)))
def vcX8_isEnd_0 (E : Wd) (d : Nat) (a0 : Nat) (x1 : Int32) (h : Hp) (Q : Int32 → Hp → Prop) : Prop :=
  isO h a0 8 ∧ OkV E YX8_findMoves d [.ref a0, .int 0, .int x1] h (fun h1 => okA h1 a0 8 9 ∧ okR E h1 (fA h1 a0 9) 0 0 ∧ (¬ (gA h1 (fA h1 a0 9) 0) = (0 : Int32) → mB 0 ∧ Q 0 h1) ∧ ((gA h1 (fA h1 a0 9) 0) = (0 : Int32) → mB 1 ∧ Q 1 h1))
set_option maxRecDepth 100000 in
set_option maxHeartbeats 4000000 in
theorem zsX8_isEnd_0 {E : Wd} {X : Mx} {d : Nat} {Q : Int32 → Hp → Prop} (C : zz_C E X YX8_isEnd (d + 1) 0 0 (fun r h' => ∃ x : Int32, r = some (.int x) ∧ Q x h')) (a0 : Nat) (x1 : Int32) (h : Hp) (v : vcX8_isEnd_0 E d a0 x1 h Q) : GG E X 2 0 0 0 [some (.ref a0), some (.int x1)] [] h := by
  refine zg_aload_n (q := 1) C dX8_isEnd_0 rfl rfl ?_
  refine zg_iconst (v := 0) (q := 2) C dX8_isEnd_1 (by decide) rfl ?_
  refine zg_iload_n (q := 3) C dX8_isEnd_2 rfl rfl ?_
  refine zg_cV2V (q := 6) C mX8_findMoves vX8_findMoves lmX8_209 rfl (bX8).1 v.1 (Nat.le_of_ble_eq_true rfl) ⟨Nat.le_refl _, Nat.le_refl _⟩ dX8_isEnd_3 rfl v.2 (fun h1 v => ?_)
  refine zg_aload_n (q := 7) C dX8_isEnd_6 rfl rfl ?_
  refine zg_get (j := 9) (q := 10) C bX8 (by decide) lkX8_27 dX8_isEnd_7 rfl (okA.get v.1) ?_
  have v := v.2
  refine zg_iconst (v := 0) (q := 11) C dX8_isEnd_10 (by decide) rfl ?_
  refine zg_iald (q := 12) C dX8_isEnd_11 rfl v.1 ?_
  have v := v.2
  refine zg_if_ne (t := 19) (q := 15) C dX8_isEnd_12 (by decide) rfl (fun c => ?_) (fun c => ?_)
  · have v := v.1 c
    refine zg_iconst (v := 0) (q := 20) C dX8_isEnd_19 (by decide) rfl ?_
    exact zg_zret C rfl dX8_isEnd_20 ⟨Nat.le_refl _, Nat.le_refl _⟩ v.1 ⟨_, rfl, v.2⟩
  · have v := v.2 c
    refine zg_iconst (v := 1) (q := 16) C dX8_isEnd_15 (by decide) rfl ?_
    refine zg_goto (t := 20) C dX8_isEnd_16 (by decide) ?_
    exact zg_zret C rfl dX8_isEnd_20 ⟨Nat.le_refl _, Nat.le_refl _⟩ v.1 ⟨_, rfl, v.2⟩
theorem rnX8_isEnd {E : Wd} {d : Nat} {a0 : Nat} {x1 : Int32} {h : Hp} {Q : Int32 → Hp → Prop} (k : vcX8_isEnd_0 E d a0 x1 h Q) : OkI E YX8_isEnd (d + 1) [.ref a0, .int x1] h Q :=
  zz_body2 (r := 0) mX8_isEnd (zc_a (zc_i zc_n)) (Nat.le_of_ble_eq_true rfl) (fun X C => zsX8_isEnd_0 C a0 x1 h k)
def vcX8_endValue_0 (E : Wd) (d : Nat) (a0 : Nat) (x1 : Int32) (x2 : Int32) (h : Hp) (Q : Int32 → Hp → Prop) : Prop :=
  okA h a0 8 8 ∧ okW E h (fA h a0 8) x2 ∧ (¬ (2 : Int32) = (0 : Int32)) ∧ isO h a0 8 ∧ OkI E YX8_isInCheck d [.ref a0, .ref (gW h (fA h a0 8) x2), .int (x1 - x1 / (2 : Int32) * (2 : Int32))] h (fun r2 h1 => (r2 = (0 : Int32) → okA h1 a0 8 4 ∧ okR E h1 (fA h1 a0 4) 0 5 ∧ Q (gA h1 (fA h1 a0 4) 5) h1) ∧ (¬ r2 = (0 : Int32) → Q ((-1)) h1))
set_option maxRecDepth 100000 in
set_option maxHeartbeats 4000000 in
theorem zsX8_endValue_0 {E : Wd} {X : Mx} {d : Nat} {Q : Int32 → Hp → Prop} (C : zz_C E X YX8_endValue (d + 1) 0 0 (fun r h' => ∃ x : Int32, r = some (.int x) ∧ Q x h')) (a0 : Nat) (x1 : Int32) (x2 : Int32) (h : Hp) (v : vcX8_endValue_0 E d a0 x1 x2 h Q) : GG E X 3 0 0 0 [some (.ref a0), some (.int x1), some (.int x2)] [] h := by
  refine zg_aload_n (q := 1) C dX8_endValue_0 rfl rfl ?_
  refine zg_aload_n (q := 2) C dX8_endValue_1 rfl rfl ?_
  refine zg_get (j := 8) (q := 5) C bX8 (by decide) lkX8_24 dX8_endValue_2 rfl (okA.get v.1) ?_
  have v := v.2
  refine zg_iload_n (q := 6) C dX8_endValue_5 rfl rfl ?_
  refine zg_aald (q := 7) C dX8_endValue_6 rfl v.1 ?_
  have v := v.2
  refine zg_iload_n (q := 8) C dX8_endValue_7 rfl rfl ?_
  refine zg_iconst (v := 2) (q := 9) C dX8_endValue_8 (by decide) rfl ?_
  refine zg_irem (q := 10) C dX8_endValue_9 v.1 rfl ?_
  have v := v.2
  refine zg_cV2I (q := 13) C mX8_isInCheck vX8_isInCheck lmX8_191 rfl (bX8).1 v.1 (Nat.le_of_ble_eq_true rfl) ⟨Nat.le_refl _, Nat.le_refl _⟩ dX8_endValue_10 rfl v.2 (fun r2 h1 v => ?_)
  refine zg_if_eq (t := 20) (q := 16) C dX8_endValue_13 (by decide) rfl (fun c => ?_) (fun c => ?_)
  · have v := v.1 c
    refine zg_aload_n (q := 21) C dX8_endValue_20 rfl rfl ?_
    refine zg_get (j := 4) (q := 24) C bX8 (by decide) lkX8_13 dX8_endValue_21 rfl (okA.get v.1) ?_
    have v := v.2
    refine zg_iconst (v := 5) (q := 25) C dX8_endValue_24 (by decide) rfl ?_
    refine zg_iald (q := 26) C dX8_endValue_25 rfl v.1 ?_
    have v := v.2
    exact zg_iret C rfl dX8_endValue_26 ⟨Nat.le_refl _, Nat.le_refl _⟩ ⟨_, rfl, v⟩
  · have v := v.2 c
    refine zg_iconst (v := (-1)) (q := 17) C dX8_endValue_16 (by decide) rfl ?_
    refine zg_goto (t := 26) C dX8_endValue_17 (by decide) ?_
    exact zg_iret C rfl dX8_endValue_26 ⟨Nat.le_refl _, Nat.le_refl _⟩ ⟨_, rfl, v⟩
theorem rnX8_endValue {E : Wd} {d : Nat} {a0 : Nat} {x1 : Int32} {x2 : Int32} {h : Hp} {Q : Int32 → Hp → Prop} (k : vcX8_endValue_0 E d a0 x1 x2 h Q) : OkI E YX8_endValue (d + 1) [.ref a0, .int x1, .int x2] h Q :=
  zz_body2 (r := 0) mX8_endValue (zc_a (zc_i (zc_i zc_n))) (Nat.le_of_ble_eq_true rfl) (fun X C => zsX8_endValue_0 C a0 x1 x2 h k)
def vcX8_build_0 (E : Wd) (d : Nat) (K20 : Nat → Int32 → Hp → Prop) (K103 : Nat → Int32 → Hp → Prop) (K197 : Nat → Int32 → Int32 → Hp → Prop) (K217 : Nat → Int32 → Int32 → Hp → Prop) (a0 : Nat) (h : Hp) (Q : Hp → Prop) : Prop :=
  isO h a0 8 ∧ OkI E YX8_squares d [.ref a0] h (fun r2 h1 => okP h1 a0 8 20 ∧ ∀ h3, h3 = pF h1 a0 20 (.int ((((r2 + (1 : Int32)) * (r2 + (1 : Int32))) * (r2 + (1 : Int32))) * (2 : Int32))) → K20 a0 0 h3)
def vcX8_build_20 (E : Wd) (d : Nat) (K20 : Nat → Int32 → Hp → Prop) (K103 : Nat → Int32 → Hp → Prop) (K197 : Nat → Int32 → Int32 → Hp → Prop) (K217 : Nat → Int32 → Int32 → Hp → Prop) (a0 : Nat) (x2 : Int32) (h : Hp) (Q : Hp → Prop) : Prop :=
  okI h a0 8 20 ∧ ((fI h a0 20) ≤ x2 → K103 a0 0 h) ∧ (¬ (fI h a0 20) ≤ x2 → okA h a0 8 8 ∧ okW E h (fA h a0 8) 0 ∧ isO h a0 8 ∧ OkV E YX8_decode d [.ref a0, .int x2, .ref (gW h (fA h a0 8) 0)] h (fun h1 => okA h1 a0 8 14 ∧ okA h1 a0 8 8 ∧ okW E h1 (fA h1 a0 8) 0 ∧ (¬ (2 : Int32) = (0 : Int32)) ∧ isO h1 a0 8 ∧ OkI E YX8_isPossible d [.ref a0, .ref (gW h1 (fA h1 a0 8) 0), .int (x2 - x2 / (2 : Int32) * (2 : Int32))] h1 (fun r3 h2 => okR E h2 (fA h1 a0 14) 1 x2 ∧ mB r3 ∧ ∀ h4, h4 = sA h2 (fA h1 a0 14) x2 r3 → okA h4 a0 8 15 ∧ okR E h4 (fA h4 a0 15) 1 x2 ∧ mB 0 ∧ ∀ h5, h5 = sA h4 (fA h4 a0 15) x2 0 → okA h5 a0 8 16 ∧ okR E h5 (fA h5 a0 16) 1 x2 ∧ mB 0 ∧ ∀ h6, h6 = sA h5 (fA h5 a0 16) x2 0 → okA h6 a0 8 17 ∧ okR E h6 (fA h6 a0 17) 0 x2 ∧ ∀ h7, h7 = sA h6 (fA h6 a0 17) x2 0 → okA h7 a0 8 18 ∧ okR E h7 (fA h7 a0 18) 0 x2 ∧ ∀ h8, h8 = sA h7 (fA h7 a0 18) x2 ((-5)) → okA h8 a0 8 19 ∧ okR E h8 (fA h8 a0 19) 0 x2 ∧ ∀ h9, h9 = sA h8 (fA h8 a0 19) x2 ((-5)) → K20 a0 (x2 + 1) h9)))
def vcX8_build_174 (E : Wd) (d : Nat) (K20 : Nat → Int32 → Hp → Prop) (K103 : Nat → Int32 → Hp → Prop) (K197 : Nat → Int32 → Int32 → Hp → Prop) (K217 : Nat → Int32 → Int32 → Hp → Prop) (a0 : Nat) (x2 : Int32) (s0 : Nat) (s1 : Int32) (s2 : Int32) (h : Hp) (Q : Hp → Prop) : Prop :=
  okR E h s0 0 s1 ∧ ∀ h1, h1 = sA h s0 s1 s2 → okA h1 a0 8 19 ∧ okA h1 a0 8 18 ∧ okR E h1 (fA h1 a0 18) 0 x2 ∧ okR E h1 (fA h1 a0 19) 0 x2 ∧ ∀ h2, h2 = sA h1 (fA h1 a0 19) x2 (gA h1 (fA h1 a0 18) x2) → K103 a0 (x2 + 1) h2
def vcX8_build_103 (E : Wd) (d : Nat) (K20 : Nat → Int32 → Hp → Prop) (K103 : Nat → Int32 → Hp → Prop) (K197 : Nat → Int32 → Int32 → Hp → Prop) (K217 : Nat → Int32 → Int32 → Hp → Prop) (a0 : Nat) (x2 : Int32) (h : Hp) (Q : Hp → Prop) : Prop :=
  okI h a0 8 20 ∧ ((fI h a0 20) ≤ x2 → K197 a0 1 1 h) ∧ (¬ (fI h a0 20) ≤ x2 → okA h a0 8 14 ∧ okR E h (fA h a0 14) 1 x2 ∧ ((gA h (fA h a0 14) x2) = (0 : Int32) → K103 a0 (x2 + 1) h) ∧ (¬ (gA h (fA h a0 14) x2) = (0 : Int32) → isO h a0 8 ∧ OkI E YX8_isEnd d [.ref a0, .int x2] h (fun r2 h1 => (r2 = (0 : Int32) → K103 a0 (x2 + 1) h1) ∧ (¬ r2 = (0 : Int32) → okA h1 a0 8 17 ∧ isO h1 a0 8 ∧ OkI E YX8_endValue d [.ref a0, .int x2, .int 0] h1 (fun r4 h3 => okR E h3 (fA h1 a0 17) 0 x2 ∧ ∀ h5, h5 = sA h3 (fA h1 a0 17) x2 r4 → okA h5 a0 8 15 ∧ okR E h5 (fA h5 a0 15) 1 x2 ∧ mB 1 ∧ ∀ h6, h6 = sA h5 (fA h5 a0 15) x2 1 → okA h6 a0 8 16 ∧ okR E h6 (fA h6 a0 16) 1 x2 ∧ mB 1 ∧ ∀ h7, h7 = sA h6 (fA h6 a0 16) x2 1 → okA h7 a0 8 18 ∧ okA h7 a0 8 17 ∧ okR E h7 (fA h7 a0 17) 0 x2 ∧ (¬ (gA h7 (fA h7 a0 17) x2) = (0 : Int32) → vcX8_build_174 E d K20 K103 K197 K217 a0 x2 (fA h7 a0 18) x2 0 h7 Q) ∧ ((gA h7 (fA h7 a0 17) x2) = (0 : Int32) → vcX8_build_174 E d K20 K103 K197 K217 a0 x2 (fA h7 a0 18) x2 ((-5)) h7 Q))))))
def vcX8_build_197 (E : Wd) (d : Nat) (K20 : Nat → Int32 → Hp → Prop) (K103 : Nat → Int32 → Hp → Prop) (K197 : Nat → Int32 → Int32 → Hp → Prop) (K217 : Nat → Int32 → Int32 → Hp → Prop) (a0 : Nat) (x2 : Int32) (x3 : Int32) (h : Hp) (Q : Hp → Prop) : Prop :=
  (x2 = (0 : Int32) → K217 a0 1 1 h) ∧ (¬ x2 = (0 : Int32) → isO h a0 8 ∧ OkI E YX8_decide d [.ref a0, .int x3] h (fun r2 h1 => K197 a0 r2 (x3 + 1) h1))
def vcX8_build_217 (E : Wd) (d : Nat) (K20 : Nat → Int32 → Hp → Prop) (K103 : Nat → Int32 → Hp → Prop) (K197 : Nat → Int32 → Int32 → Hp → Prop) (K217 : Nat → Int32 → Int32 → Hp → Prop) (a0 : Nat) (x2 : Int32) (x3 : Int32) (h : Hp) (Q : Hp → Prop) : Prop :=
  (x2 = (0 : Int32) → Q h) ∧ (¬ x2 = (0 : Int32) → isO h a0 8 ∧ OkI E YX8_convert d [.ref a0, .int x3] h (fun r2 h1 => K217 a0 r2 (x3 + 1) h1))
def zkX8_build_20 (E : Wd) (X : Mx) : Nat → Int32 → Hp → Prop := fun a0 x2 h => GG E X 4 0 0 20 [some (.ref a0), none, some (.int x2), none] [] h
def zkX8_build_103 (E : Wd) (X : Mx) : Nat → Int32 → Hp → Prop := fun a0 x2 h => GG E X 4 0 0 103 [some (.ref a0), none, some (.int x2), none] [] h
def zkX8_build_197 (E : Wd) (X : Mx) : Nat → Int32 → Int32 → Hp → Prop := fun a0 x2 x3 h => GG E X 4 0 0 197 [some (.ref a0), none, some (.int x2), some (.int x3)] [] h
def zkX8_build_217 (E : Wd) (X : Mx) : Nat → Int32 → Int32 → Hp → Prop := fun a0 x2 x3 h => GG E X 4 0 0 217 [some (.ref a0), none, some (.int x2), some (.int x3)] [] h
set_option maxRecDepth 100000 in
set_option maxHeartbeats 4000000 in
theorem zsX8_build_0 {E : Wd} {X : Mx} {d : Nat} {Q : Hp → Prop} (C : zz_C E X YX8_build (d + 1) 0 0 (fun r h' => r = none ∧ Q h')) (a0 : Nat) (h : Hp) (v : vcX8_build_0 E d (zkX8_build_20 E X) (zkX8_build_103 E X) (zkX8_build_197 E X) (zkX8_build_217 E X) a0 h Q) : GG E X 4 0 0 0 [some (.ref a0), none, none, none] [] h := by
  refine zg_aload_n (q := 1) C dX8_build_0 rfl rfl ?_
  refine zg_cV0I (q := 4) C mX8_squares vX8_squares lmX8_152 rfl (bX8).1 v.1 (Nat.le_of_ble_eq_true rfl) ⟨Nat.le_refl _, Nat.le_refl _⟩ dX8_build_1 rfl v.2 (fun r2 h1 v => ?_)
  refine zg_iconst (v := 1) (q := 5) C dX8_build_4 (by decide) rfl ?_
  refine zg_iadd (q := 6) C dX8_build_5 rfl ?_
  refine zg_istore_n (q := 7) C dX8_build_6 (by decide) rfl ?_
  refine zg_aload_n (q := 8) C dX8_build_7 rfl rfl ?_
  refine zg_iload_n (q := 9) C dX8_build_8 rfl rfl ?_
  refine zg_iload_n (q := 10) C dX8_build_9 rfl rfl ?_
  refine zg_imul (q := 11) C dX8_build_10 rfl ?_
  refine zg_iload_n (q := 12) C dX8_build_11 rfl rfl ?_
  refine zg_imul (q := 13) C dX8_build_12 rfl ?_
  refine zg_iconst (v := 2) (q := 14) C dX8_build_13 (by decide) rfl ?_
  refine zg_imul (q := 15) C dX8_build_14 rfl ?_
  refine zg_put (j := 20) (q := 18) C bX8 (by decide) lkX8_213 dX8_build_15 rfl rfl v.1 rfl rfl ?_
  have v := v.2 _ rfl
  refine zg_iconst (v := 0) (q := 19) C dX8_build_18 (by decide) rfl ?_
  refine zg_istore_n (q := 20) C dX8_build_19 (by decide) rfl ?_
  exact zg_mask [true, false, true, false] v
set_option maxRecDepth 100000 in
set_option maxHeartbeats 4000000 in
theorem zsX8_build_20 {E : Wd} {X : Mx} {d : Nat} {Q : Hp → Prop} (C : zz_C E X YX8_build (d + 1) 0 0 (fun r h' => r = none ∧ Q h')) (a0 : Nat) (x2 : Int32) (h : Hp) (v : vcX8_build_20 E d (zkX8_build_20 E X) (zkX8_build_103 E X) (zkX8_build_197 E X) (zkX8_build_217 E X) a0 x2 h Q) : GG E X 4 0 0 20 [some (.ref a0), none, some (.int x2), none] [] h := by
  refine zg_iload_n (q := 21) C dX8_build_20 rfl rfl ?_
  refine zg_aload_n (q := 22) C dX8_build_21 rfl rfl ?_
  refine zg_get (j := 20) (q := 25) C bX8 (by decide) lkX8_213 dX8_build_22 rfl (okI.get v.1) ?_
  have v := v.2
  refine zg_icmp_ge (t := 101) (q := 28) C dX8_build_25 (by decide) rfl (fun c => ?_) (fun c => ?_)
  · have v := v.1 c
    refine zg_iconst (v := 0) (q := 102) C dX8_build_101 (by decide) rfl ?_
    refine zg_istore_n (q := 103) C dX8_build_102 (by decide) rfl ?_
    exact zg_mask [true, false, true, false] v
  · have v := v.2 c
    refine zg_aload_n (q := 29) C dX8_build_28 rfl rfl ?_
    refine zg_iload_n (q := 30) C dX8_build_29 rfl rfl ?_
    refine zg_aload_n (q := 31) C dX8_build_30 rfl rfl ?_
    refine zg_get (j := 8) (q := 34) C bX8 (by decide) lkX8_24 dX8_build_31 rfl (okA.get v.1) ?_
    have v := v.2
    refine zg_iconst (v := 0) (q := 35) C dX8_build_34 (by decide) rfl ?_
    refine zg_aald (q := 36) C dX8_build_35 rfl v.1 ?_
    have v := v.2
    refine zg_cV2V (q := 39) C mX8_decode vX8_decode lmX8_201 rfl (bX8).1 v.1 (Nat.le_of_ble_eq_true rfl) ⟨Nat.le_refl _, Nat.le_refl _⟩ dX8_build_36 rfl v.2 (fun h1 v => ?_)
    refine zg_aload_n (q := 40) C dX8_build_39 rfl rfl ?_
    refine zg_get (j := 14) (q := 43) C bX8 (by decide) lkX8_42 dX8_build_40 rfl (okA.get v.1) ?_
    have v := v.2
    refine zg_iload_n (q := 44) C dX8_build_43 rfl rfl ?_
    refine zg_aload_n (q := 45) C dX8_build_44 rfl rfl ?_
    refine zg_aload_n (q := 46) C dX8_build_45 rfl rfl ?_
    refine zg_get (j := 8) (q := 49) C bX8 (by decide) lkX8_24 dX8_build_46 rfl (okA.get v.1) ?_
    have v := v.2
    refine zg_iconst (v := 0) (q := 50) C dX8_build_49 (by decide) rfl ?_
    refine zg_aald (q := 51) C dX8_build_50 rfl v.1 ?_
    have v := v.2
    refine zg_iload_n (q := 52) C dX8_build_51 rfl rfl ?_
    refine zg_iconst (v := 2) (q := 53) C dX8_build_52 (by decide) rfl ?_
    refine zg_irem (q := 54) C dX8_build_53 v.1 rfl ?_
    have v := v.2
    refine zg_cV2I (q := 57) C mX8_isPossible vX8_isPossible lmX8_216 rfl (bX8).1 v.1 (Nat.le_of_ble_eq_true rfl) ⟨Nat.le_refl _, Nat.le_refl _⟩ dX8_build_54 rfl v.2 (fun r3 h2 v => ?_)
    refine zg_zast (q := 58) C dX8_build_57 rfl v.1 v.2.1 ?_
    have v := v.2.2 _ rfl
    refine zg_aload_n (q := 59) C dX8_build_58 rfl rfl ?_
    refine zg_get (j := 15) (q := 62) C bX8 (by decide) lkX8_46 dX8_build_59 rfl (okA.get v.1) ?_
    have v := v.2
    refine zg_iload_n (q := 63) C dX8_build_62 rfl rfl ?_
    refine zg_iconst (v := 0) (q := 64) C dX8_build_63 (by decide) rfl ?_
    refine zg_zast (q := 65) C dX8_build_64 rfl v.1 v.2.1 ?_
    have v := v.2.2 _ rfl
    refine zg_aload_n (q := 66) C dX8_build_65 rfl rfl ?_
    refine zg_get (j := 16) (q := 69) C bX8 (by decide) lkX8_49 dX8_build_66 rfl (okA.get v.1) ?_
    have v := v.2
    refine zg_iload_n (q := 70) C dX8_build_69 rfl rfl ?_
    refine zg_iconst (v := 0) (q := 71) C dX8_build_70 (by decide) rfl ?_
    refine zg_zast (q := 72) C dX8_build_71 rfl v.1 v.2.1 ?_
    have v := v.2.2 _ rfl
    refine zg_aload_n (q := 73) C dX8_build_72 rfl rfl ?_
    refine zg_get (j := 17) (q := 76) C bX8 (by decide) lkX8_52 dX8_build_73 rfl (okA.get v.1) ?_
    have v := v.2
    refine zg_iload_n (q := 77) C dX8_build_76 rfl rfl ?_
    refine zg_iconst (v := 0) (q := 78) C dX8_build_77 (by decide) rfl ?_
    refine zg_iast (q := 79) C dX8_build_78 rfl v.1 ?_
    have v := v.2 _ rfl
    refine zg_aload_n (q := 80) C dX8_build_79 rfl rfl ?_
    refine zg_get (j := 18) (q := 83) C bX8 (by decide) lkX8_55 dX8_build_80 rfl (okA.get v.1) ?_
    have v := v.2
    refine zg_iload_n (q := 84) C dX8_build_83 rfl rfl ?_
    refine zg_bipush (v := (-5)) (q := 86) C dX8_build_84 (by decide) rfl ?_
    refine zg_iast (q := 87) C dX8_build_86 rfl v.1 ?_
    have v := v.2 _ rfl
    refine zg_aload_n (q := 88) C dX8_build_87 rfl rfl ?_
    refine zg_get (j := 19) (q := 91) C bX8 (by decide) lkX8_58 dX8_build_88 rfl (okA.get v.1) ?_
    have v := v.2
    refine zg_iload_n (q := 92) C dX8_build_91 rfl rfl ?_
    refine zg_bipush (v := (-5)) (q := 94) C dX8_build_92 (by decide) rfl ?_
    refine zg_iast (q := 95) C dX8_build_94 rfl v.1 ?_
    have v := v.2 _ rfl
    refine zg_iinc (v := 1) (q := 98) C dX8_build_95 rfl (by decide) (by decide) rfl ?_
    refine zg_goto (t := 20) C dX8_build_98 (by decide) ?_
    exact zg_mask [true, false, true, false] v
set_option maxRecDepth 100000 in
set_option maxHeartbeats 4000000 in
theorem zsX8_build_174 {E : Wd} {X : Mx} {d : Nat} {Q : Hp → Prop} (C : zz_C E X YX8_build (d + 1) 0 0 (fun r h' => r = none ∧ Q h')) (a0 : Nat) (x2 : Int32) (s0 : Nat) (s1 : Int32) (s2 : Int32) (h : Hp) (v : vcX8_build_174 E d (zkX8_build_20 E X) (zkX8_build_103 E X) (zkX8_build_197 E X) (zkX8_build_217 E X) a0 x2 s0 s1 s2 h Q) : GG E X 4 0 0 174 [some (.ref a0), none, some (.int x2), none] [.int s2, .int s1, .ref s0] h := by
  refine zg_iast (q := 175) C dX8_build_174 rfl v.1 ?_
  have v := v.2 _ rfl
  refine zg_aload_n (q := 176) C dX8_build_175 rfl rfl ?_
  refine zg_get (j := 19) (q := 179) C bX8 (by decide) lkX8_58 dX8_build_176 rfl (okA.get v.1) ?_
  have v := v.2
  refine zg_iload_n (q := 180) C dX8_build_179 rfl rfl ?_
  refine zg_aload_n (q := 181) C dX8_build_180 rfl rfl ?_
  refine zg_get (j := 18) (q := 184) C bX8 (by decide) lkX8_55 dX8_build_181 rfl (okA.get v.1) ?_
  have v := v.2
  refine zg_iload_n (q := 185) C dX8_build_184 rfl rfl ?_
  refine zg_iald (q := 186) C dX8_build_185 rfl v.1 ?_
  have v := v.2
  refine zg_iast (q := 187) C dX8_build_186 rfl v.1 ?_
  have v := v.2 _ rfl
  refine zg_iinc (v := 1) (q := 190) C dX8_build_187 rfl (by decide) (by decide) rfl ?_
  refine zg_goto (t := 103) C dX8_build_190 (by decide) ?_
  exact zg_mask [true, false, true, false] v
set_option maxRecDepth 100000 in
set_option maxHeartbeats 4000000 in
theorem zsX8_build_103 {E : Wd} {X : Mx} {d : Nat} {Q : Hp → Prop} (C : zz_C E X YX8_build (d + 1) 0 0 (fun r h' => r = none ∧ Q h')) (a0 : Nat) (x2 : Int32) (h : Hp) (v : vcX8_build_103 E d (zkX8_build_20 E X) (zkX8_build_103 E X) (zkX8_build_197 E X) (zkX8_build_217 E X) a0 x2 h Q) : GG E X 4 0 0 103 [some (.ref a0), none, some (.int x2), none] [] h := by
  refine zg_iload_n (q := 104) C dX8_build_103 rfl rfl ?_
  refine zg_aload_n (q := 105) C dX8_build_104 rfl rfl ?_
  refine zg_get (j := 20) (q := 108) C bX8 (by decide) lkX8_213 dX8_build_105 rfl (okI.get v.1) ?_
  have v := v.2
  refine zg_icmp_ge (t := 193) (q := 111) C dX8_build_108 (by decide) rfl (fun c => ?_) (fun c => ?_)
  · have v := v.1 c
    refine zg_iconst (v := 1) (q := 194) C dX8_build_193 (by decide) rfl ?_
    refine zg_istore_n (q := 195) C dX8_build_194 (by decide) rfl ?_
    refine zg_iconst (v := 1) (q := 196) C dX8_build_195 (by decide) rfl ?_
    refine zg_istore_n (q := 197) C dX8_build_196 (by decide) rfl ?_
    exact zg_mask [true, false, true, true] v
  · have v := v.2 c
    refine zg_aload_n (q := 112) C dX8_build_111 rfl rfl ?_
    refine zg_get (j := 14) (q := 115) C bX8 (by decide) lkX8_42 dX8_build_112 rfl (okA.get v.1) ?_
    have v := v.2
    refine zg_iload_n (q := 116) C dX8_build_115 rfl rfl ?_
    refine zg_zald (q := 117) C dX8_build_116 rfl v.1 ?_
    have v := v.2
    refine zg_if_eq (t := 187) (q := 120) C dX8_build_117 (by decide) rfl (fun c => ?_) (fun c => ?_)
    · have v := v.1 c
      refine zg_iinc (v := 1) (q := 190) C dX8_build_187 rfl (by decide) (by decide) rfl ?_
      refine zg_goto (t := 103) C dX8_build_190 (by decide) ?_
      exact zg_mask [true, false, true, false] v
    · have v := v.2 c
      refine zg_aload_n (q := 121) C dX8_build_120 rfl rfl ?_
      refine zg_iload_n (q := 122) C dX8_build_121 rfl rfl ?_
      refine zg_cV1I (q := 125) C mX8_isEnd vX8_isEnd lmX8_219 rfl (bX8).1 v.1 (Nat.le_of_ble_eq_true rfl) ⟨Nat.le_refl _, Nat.le_refl _⟩ dX8_build_122 rfl v.2 (fun r2 h1 v => ?_)
      refine zg_if_eq (t := 187) (q := 128) C dX8_build_125 (by decide) rfl (fun c => ?_) (fun c => ?_)
      · have v := v.1 c
        refine zg_iinc (v := 1) (q := 190) C dX8_build_187 rfl (by decide) (by decide) rfl ?_
        refine zg_goto (t := 103) C dX8_build_190 (by decide) ?_
        exact zg_mask [true, false, true, false] v
      · have v := v.2 c
        refine zg_aload_n (q := 129) C dX8_build_128 rfl rfl ?_
        refine zg_get (j := 17) (q := 132) C bX8 (by decide) lkX8_52 dX8_build_129 rfl (okA.get v.1) ?_
        have v := v.2
        refine zg_iload_n (q := 133) C dX8_build_132 rfl rfl ?_
        refine zg_aload_n (q := 134) C dX8_build_133 rfl rfl ?_
        refine zg_iload_n (q := 135) C dX8_build_134 rfl rfl ?_
        refine zg_iconst (v := 0) (q := 136) C dX8_build_135 (by decide) rfl ?_
        refine zg_cV2I (q := 139) C mX8_endValue vX8_endValue lmX8_222 rfl (bX8).1 v.1 (Nat.le_of_ble_eq_true rfl) ⟨Nat.le_refl _, Nat.le_refl _⟩ dX8_build_136 rfl v.2 (fun r4 h3 v => ?_)
        refine zg_iast (q := 140) C dX8_build_139 rfl v.1 ?_
        have v := v.2 _ rfl
        refine zg_aload_n (q := 141) C dX8_build_140 rfl rfl ?_
        refine zg_get (j := 15) (q := 144) C bX8 (by decide) lkX8_46 dX8_build_141 rfl (okA.get v.1) ?_
        have v := v.2
        refine zg_iload_n (q := 145) C dX8_build_144 rfl rfl ?_
        refine zg_iconst (v := 1) (q := 146) C dX8_build_145 (by decide) rfl ?_
        refine zg_zast (q := 147) C dX8_build_146 rfl v.1 v.2.1 ?_
        have v := v.2.2 _ rfl
        refine zg_aload_n (q := 148) C dX8_build_147 rfl rfl ?_
        refine zg_get (j := 16) (q := 151) C bX8 (by decide) lkX8_49 dX8_build_148 rfl (okA.get v.1) ?_
        have v := v.2
        refine zg_iload_n (q := 152) C dX8_build_151 rfl rfl ?_
        refine zg_iconst (v := 1) (q := 153) C dX8_build_152 (by decide) rfl ?_
        refine zg_zast (q := 154) C dX8_build_153 rfl v.1 v.2.1 ?_
        have v := v.2.2 _ rfl
        refine zg_aload_n (q := 155) C dX8_build_154 rfl rfl ?_
        refine zg_get (j := 18) (q := 158) C bX8 (by decide) lkX8_55 dX8_build_155 rfl (okA.get v.1) ?_
        have v := v.2
        refine zg_iload_n (q := 159) C dX8_build_158 rfl rfl ?_
        refine zg_aload_n (q := 160) C dX8_build_159 rfl rfl ?_
        refine zg_get (j := 17) (q := 163) C bX8 (by decide) lkX8_52 dX8_build_160 rfl (okA.get v.1) ?_
        have v := v.2
        refine zg_iload_n (q := 164) C dX8_build_163 rfl rfl ?_
        refine zg_iald (q := 165) C dX8_build_164 rfl v.1 ?_
        have v := v.2
        refine zg_if_ne (t := 173) (q := 168) C dX8_build_165 (by decide) rfl (fun c => ?_) (fun c => ?_)
        · have v := v.1 c
          refine zg_iconst (v := 0) (q := 174) C dX8_build_173 (by decide) rfl ?_
          exact zg_mask [true, false, true, false] (zsX8_build_174 C _ _ _ _ _ _ v)
        · have v := v.2 c
          refine zg_bipush (v := (-5)) (q := 170) C dX8_build_168 (by decide) rfl ?_
          refine zg_goto (t := 174) C dX8_build_170 (by decide) ?_
          exact zg_mask [true, false, true, false] (zsX8_build_174 C _ _ _ _ _ _ v)
set_option maxRecDepth 100000 in
set_option maxHeartbeats 4000000 in
theorem zsX8_build_197 {E : Wd} {X : Mx} {d : Nat} {Q : Hp → Prop} (C : zz_C E X YX8_build (d + 1) 0 0 (fun r h' => r = none ∧ Q h')) (a0 : Nat) (x2 : Int32) (x3 : Int32) (h : Hp) (v : vcX8_build_197 E d (zkX8_build_20 E X) (zkX8_build_103 E X) (zkX8_build_197 E X) (zkX8_build_217 E X) a0 x2 x3 h Q) : GG E X 4 0 0 197 [some (.ref a0), none, some (.int x2), some (.int x3)] [] h := by
  refine zg_iload_n (q := 198) C dX8_build_197 rfl rfl ?_
  refine zg_if_eq (t := 213) (q := 201) C dX8_build_198 (by decide) rfl (fun c => ?_) (fun c => ?_)
  · have v := v.1 c
    refine zg_iconst (v := 1) (q := 214) C dX8_build_213 (by decide) rfl ?_
    refine zg_istore_n (q := 215) C dX8_build_214 (by decide) rfl ?_
    refine zg_iconst (v := 1) (q := 216) C dX8_build_215 (by decide) rfl ?_
    refine zg_istore_n (q := 217) C dX8_build_216 (by decide) rfl ?_
    exact zg_mask [true, false, true, true] v
  · have v := v.2 c
    refine zg_aload_n (q := 202) C dX8_build_201 rfl rfl ?_
    refine zg_iload_n (q := 203) C dX8_build_202 rfl rfl ?_
    refine zg_cV1I (q := 206) C mX8_decide vX8_decide lmX8_225 rfl (bX8).1 v.1 (Nat.le_of_ble_eq_true rfl) ⟨Nat.le_refl _, Nat.le_refl _⟩ dX8_build_203 rfl v.2 (fun r2 h1 v => ?_)
    refine zg_istore_n (q := 207) C dX8_build_206 (by decide) rfl ?_
    refine zg_iinc (v := 1) (q := 210) C dX8_build_207 rfl (by decide) (by decide) rfl ?_
    refine zg_goto (t := 197) C dX8_build_210 (by decide) ?_
    exact zg_mask [true, false, true, true] v
set_option maxRecDepth 100000 in
set_option maxHeartbeats 4000000 in
theorem zsX8_build_217 {E : Wd} {X : Mx} {d : Nat} {Q : Hp → Prop} (C : zz_C E X YX8_build (d + 1) 0 0 (fun r h' => r = none ∧ Q h')) (a0 : Nat) (x2 : Int32) (x3 : Int32) (h : Hp) (v : vcX8_build_217 E d (zkX8_build_20 E X) (zkX8_build_103 E X) (zkX8_build_197 E X) (zkX8_build_217 E X) a0 x2 x3 h Q) : GG E X 4 0 0 217 [some (.ref a0), none, some (.int x2), some (.int x3)] [] h := by
  refine zg_iload_n (q := 218) C dX8_build_217 rfl rfl ?_
  refine zg_if_eq (t := 233) (q := 221) C dX8_build_218 (by decide) rfl (fun c => ?_) (fun c => ?_)
  · have v := v.1 c
    exact zg_vret C rfl dX8_build_233 ⟨Nat.le_refl _, Nat.le_refl _⟩ ⟨rfl, v⟩
  · have v := v.2 c
    refine zg_aload_n (q := 222) C dX8_build_221 rfl rfl ?_
    refine zg_iload_n (q := 223) C dX8_build_222 rfl rfl ?_
    refine zg_cV1I (q := 226) C mX8_convert vX8_convert lmX8_228 rfl (bX8).1 v.1 (Nat.le_of_ble_eq_true rfl) ⟨Nat.le_refl _, Nat.le_refl _⟩ dX8_build_223 rfl v.2 (fun r2 h1 v => ?_)
    refine zg_istore_n (q := 227) C dX8_build_226 (by decide) rfl ?_
    refine zg_iinc (v := 1) (q := 230) C dX8_build_227 rfl (by decide) (by decide) rfl ?_
    refine zg_goto (t := 217) C dX8_build_230 (by decide) ?_
    exact zg_mask [true, false, true, true] v
theorem rnX8_build {E : Wd} {d : Nat} {a0 : Nat} {h : Hp} {Q : Hp → Prop} (k : ∀ (K20 : Nat → Int32 → Hp → Prop) (K103 : Nat → Int32 → Hp → Prop) (K197 : Nat → Int32 → Int32 → Hp → Prop) (K217 : Nat → Int32 → Int32 → Hp → Prop),(∀ (a0 : Nat) (x2 : Int32) h, vcX8_build_20 E d K20 K103 K197 K217 a0 x2 h Q → K20 a0 x2 h) → (∀ (a0 : Nat) (x2 : Int32) h, vcX8_build_103 E d K20 K103 K197 K217 a0 x2 h Q → K103 a0 x2 h) → (∀ (a0 : Nat) (x2 : Int32) (x3 : Int32) h, vcX8_build_197 E d K20 K103 K197 K217 a0 x2 x3 h Q → K197 a0 x2 x3 h) → (∀ (a0 : Nat) (x2 : Int32) (x3 : Int32) h, vcX8_build_217 E d K20 K103 K197 K217 a0 x2 x3 h Q → K217 a0 x2 x3 h) → vcX8_build_0 E d K20 K103 K197 K217 a0 h Q) : OkV E YX8_build (d + 1) [.ref a0] h Q :=
  zz_body2 (r := 3) mX8_build (zc_a zc_n) (Nat.le_of_ble_eq_true rfl) (fun X C => zsX8_build_0 C a0 h (k (zkX8_build_20 E X) (zkX8_build_103 E X) (zkX8_build_197 E X) (zkX8_build_217 E X) (fun a0 x2 h v => zsX8_build_20 C a0 x2 h v) (fun a0 x2 h v => zsX8_build_103 C a0 x2 h v) (fun a0 x2 x3 h v => zsX8_build_197 C a0 x2 x3 h v) (fun a0 x2 x3 h v => zsX8_build_217 C a0 x2 x3 h v)))
def vcX8_decide_0 (E : Wd) (d : Nat) (K4 : Nat → Int32 → Int32 → Int32 → Hp → Prop) (K45 : Nat → Int32 → Int32 → Int32 → Int32 → Int32 → Int32 → Hp → Prop) (a0 : Nat) (x1 : Int32) (h : Hp) (Q : Int32 → Hp → Prop) : Prop :=
  K4 a0 x1 0 0 h
def vcX8_decide_4 (E : Wd) (d : Nat) (K4 : Nat → Int32 → Int32 → Int32 → Hp → Prop) (K45 : Nat → Int32 → Int32 → Int32 → Int32 → Int32 → Int32 → Hp → Prop) (a0 : Nat) (x1 : Int32) (x2 : Int32) (x3 : Int32) (h : Hp) (Q : Int32 → Hp → Prop) : Prop :=
  okI h a0 8 20 ∧ ((fI h a0 20) ≤ x3 → mB x2 ∧ Q x2 h) ∧ (¬ (fI h a0 20) ≤ x3 → okA h a0 8 14 ∧ okR E h (fA h a0 14) 1 x3 ∧ ((gA h (fA h a0 14) x3) = (0 : Int32) → K4 a0 x1 x2 (x3 + 1) h) ∧ (¬ (gA h (fA h a0 14) x3) = (0 : Int32) → okA h a0 8 15 ∧ okR E h (fA h a0 15) 1 x3 ∧ (¬ (gA h (fA h a0 15) x3) = (0 : Int32) → K4 a0 x1 x2 (x3 + 1) h) ∧ ((gA h (fA h a0 15) x3) = (0 : Int32) → isO h a0 8 ∧ OkV E YX8_findMoves d [.ref a0, .int 0, .int x3] h (fun h1 => K45 a0 x1 x2 x3 0 1 0 h1))))
def vcX8_decide_188 (E : Wd) (d : Nat) (K4 : Nat → Int32 → Int32 → Int32 → Hp → Prop) (K45 : Nat → Int32 → Int32 → Int32 → Int32 → Int32 → Int32 → Hp → Prop) (a0 : Nat) (x1 : Int32) (x3 : Int32) (s0 : Nat) (s1 : Int32) (s2 : Int32) (h : Hp) (Q : Int32 → Hp → Prop) : Prop :=
  okR E h s0 0 s1 ∧ ∀ h1, h1 = sA h s0 s1 s2 → okA h1 a0 8 18 ∧ okR E h1 (fA h1 a0 18) 0 x3 ∧ ∀ h2, h2 = sA h1 (fA h1 a0 18) x3 x1 → okA h2 a0 8 15 ∧ okR E h2 (fA h2 a0 15) 1 x3 ∧ mB 1 ∧ ∀ h3, h3 = sA h2 (fA h2 a0 15) x3 1 → K4 a0 x1 1 (x3 + 1) h3
def vcX8_decide_173 (E : Wd) (d : Nat) (K4 : Nat → Int32 → Int32 → Int32 → Hp → Prop) (K45 : Nat → Int32 → Int32 → Int32 → Int32 → Int32 → Int32 → Hp → Prop) (a0 : Nat) (x1 : Int32) (x3 : Int32) (x4 : Int32) (h : Hp) (Q : Int32 → Hp → Prop) : Prop :=
  okA h a0 8 17 ∧ (x4 = (0 : Int32) → vcX8_decide_188 E d K4 K45 a0 x1 x3 (fA h a0 17) x3 ((-1)) h Q) ∧ (¬ x4 = (0 : Int32) → vcX8_decide_188 E d K4 K45 a0 x1 x3 (fA h a0 17) x3 1 h Q)
def vcX8_decide_153 (E : Wd) (d : Nat) (K4 : Nat → Int32 → Int32 → Int32 → Hp → Prop) (K45 : Nat → Int32 → Int32 → Int32 → Int32 → Int32 → Int32 → Hp → Prop) (a0 : Nat) (x1 : Int32) (x2 : Int32) (x3 : Int32) (x4 : Int32) (x6 : Int32) (s0 : Int32) (h : Hp) (Q : Int32 → Hp → Prop) : Prop :=
  K45 a0 x1 x2 x3 x4 (s0 &&& (0 : Int32)) (x6 + 1) h
def vcX8_decide_128 (E : Wd) (d : Nat) (K4 : Nat → Int32 → Int32 → Int32 → Hp → Prop) (K45 : Nat → Int32 → Int32 → Int32 → Int32 → Int32 → Int32 → Hp → Prop) (a0 : Nat) (x1 : Int32) (x2 : Int32) (x3 : Int32) (x5 : Int32) (x6 : Int32) (x7 : Int32) (x8 : Int32) (s0 : Int32) (s1 : Int32) (h : Hp) (Q : Int32 → Hp → Prop) : Prop :=
  (x8 = (0 : Int32) → vcX8_decide_153 E d K4 K45 a0 x1 x2 x3 (s0 ||| s1) x6 x5 h Q) ∧ (¬ x8 = (0 : Int32) → okA h a0 8 17 ∧ okR E h (fA h a0 17) 0 x7 ∧ (¬ (gA h (fA h a0 17) x7) = (1 : Int32) → vcX8_decide_153 E d K4 K45 a0 x1 x2 x3 (s0 ||| s1) x6 x5 h Q) ∧ ((gA h (fA h a0 17) x7) = (1 : Int32) → K45 a0 x1 x2 x3 (s0 ||| s1) (x5 &&& (1 : Int32)) (x6 + 1) h))
def vcX8_decide_127 (E : Wd) (d : Nat) (K4 : Nat → Int32 → Int32 → Int32 → Hp → Prop) (K45 : Nat → Int32 → Int32 → Int32 → Int32 → Int32 → Int32 → Hp → Prop) (a0 : Nat) (x1 : Int32) (x2 : Int32) (x3 : Int32) (x5 : Int32) (x6 : Int32) (x7 : Int32) (x8 : Int32) (s0 : Int32) (h : Hp) (Q : Int32 → Hp → Prop) : Prop :=
  vcX8_decide_128 E d K4 K45 a0 x1 x2 x3 x5 x6 x7 x8 s0 0 h Q
def vcX8_decide_103 (E : Wd) (d : Nat) (K4 : Nat → Int32 → Int32 → Int32 → Hp → Prop) (K45 : Nat → Int32 → Int32 → Int32 → Int32 → Int32 → Int32 → Hp → Prop) (a0 : Nat) (x1 : Int32) (x2 : Int32) (x3 : Int32) (x4 : Int32) (x5 : Int32) (x6 : Int32) (x7 : Int32) (s0 : Int32) (h : Hp) (Q : Int32 → Hp → Prop) : Prop :=
  (s0 = (0 : Int32) → vcX8_decide_127 E d K4 K45 a0 x1 x2 x3 x5 x6 x7 s0 x4 h Q) ∧ (¬ s0 = (0 : Int32) → okA h a0 8 17 ∧ okR E h (fA h a0 17) 0 x7 ∧ (¬ (gA h (fA h a0 17) x7) = ((-1)) → vcX8_decide_127 E d K4 K45 a0 x1 x2 x3 x5 x6 x7 s0 x4 h Q) ∧ ((gA h (fA h a0 17) x7) = ((-1)) → vcX8_decide_128 E d K4 K45 a0 x1 x2 x3 x5 x6 x7 s0 x4 1 h Q))
def vcX8_decide_102 (E : Wd) (d : Nat) (K4 : Nat → Int32 → Int32 → Int32 → Hp → Prop) (K45 : Nat → Int32 → Int32 → Int32 → Int32 → Int32 → Int32 → Hp → Prop) (a0 : Nat) (x1 : Int32) (x2 : Int32) (x3 : Int32) (x4 : Int32) (x5 : Int32) (x6 : Int32) (x7 : Int32) (h : Hp) (Q : Int32 → Hp → Prop) : Prop :=
  vcX8_decide_103 E d K4 K45 a0 x1 x2 x3 x4 x5 x6 x7 0 h Q
def vcX8_decide_45 (E : Wd) (d : Nat) (K4 : Nat → Int32 → Int32 → Int32 → Hp → Prop) (K45 : Nat → Int32 → Int32 → Int32 → Int32 → Int32 → Int32 → Hp → Prop) (a0 : Nat) (x1 : Int32) (x2 : Int32) (x3 : Int32) (x4 : Int32) (x5 : Int32) (x6 : Int32) (h : Hp) (Q : Int32 → Hp → Prop) : Prop :=
  okA h a0 8 9 ∧ okR E h (fA h a0 9) 0 0 ∧ ((gA h (fA h a0 9) 0) ≤ x6 → (¬ x4 = (0 : Int32) → vcX8_decide_173 E d K4 K45 a0 x1 x3 x4 h Q) ∧ (x4 = (0 : Int32) → (x5 = (0 : Int32) → K4 a0 x1 x2 (x3 + 1) h) ∧ (¬ x5 = (0 : Int32) → vcX8_decide_173 E d K4 K45 a0 x1 x3 x4 h Q))) ∧ (¬ (gA h (fA h a0 9) 0) ≤ x6 → okA h a0 8 13 ∧ okW E h (fA h a0 13) 0 ∧ okR E h (gW h (fA h a0 13) 0) 0 x6 ∧ okA h a0 8 15 ∧ okR E h (fA h a0 15) 1 (gA h (gW h (fA h a0 13) 0) x6) ∧ ((gA h (fA h a0 15) (gA h (gW h (fA h a0 13) 0) x6)) = (0 : Int32) → vcX8_decide_102 E d K4 K45 a0 x1 x2 x3 x4 x5 x6 (gA h (gW h (fA h a0 13) 0) x6) h Q) ∧ (¬ (gA h (fA h a0 15) (gA h (gW h (fA h a0 13) 0) x6)) = (0 : Int32) → okA h a0 8 18 ∧ okR E h (fA h a0 18) 0 (gA h (gW h (fA h a0 13) 0) x6) ∧ ((gA h (fA h a0 18) (gA h (gW h (fA h a0 13) 0) x6)) < (0 : Int32) → vcX8_decide_102 E d K4 K45 a0 x1 x2 x3 x4 x5 x6 (gA h (gW h (fA h a0 13) 0) x6) h Q) ∧ (¬ (gA h (fA h a0 18) (gA h (gW h (fA h a0 13) 0) x6)) < (0 : Int32) → okA h a0 8 18 ∧ okR E h (fA h a0 18) 0 (gA h (gW h (fA h a0 13) 0) x6) ∧ (x1 ≤ (gA h (fA h a0 18) (gA h (gW h (fA h a0 13) 0) x6)) → vcX8_decide_102 E d K4 K45 a0 x1 x2 x3 x4 x5 x6 (gA h (gW h (fA h a0 13) 0) x6) h Q) ∧ (¬ x1 ≤ (gA h (fA h a0 18) (gA h (gW h (fA h a0 13) 0) x6)) → vcX8_decide_103 E d K4 K45 a0 x1 x2 x3 x4 x5 x6 (gA h (gW h (fA h a0 13) 0) x6) 1 h Q))))
def zkX8_decide_4 (E : Wd) (X : Mx) : Nat → Int32 → Int32 → Int32 → Hp → Prop := fun a0 x1 x2 x3 h => GG E X 9 0 0 4 [some (.ref a0), some (.int x1), some (.int x2), some (.int x3), none, none, none, none, none] [] h
def zkX8_decide_45 (E : Wd) (X : Mx) : Nat → Int32 → Int32 → Int32 → Int32 → Int32 → Int32 → Hp → Prop := fun a0 x1 x2 x3 x4 x5 x6 h => GG E X 9 0 0 45 [some (.ref a0), some (.int x1), some (.int x2), some (.int x3), some (.int x4), some (.int x5), some (.int x6), none, none] [] h
set_option maxRecDepth 100000 in
set_option maxHeartbeats 4000000 in
theorem zsX8_decide_0 {E : Wd} {X : Mx} {d : Nat} {Q : Int32 → Hp → Prop} (C : zz_C E X YX8_decide (d + 1) 0 0 (fun r h' => ∃ x : Int32, r = some (.int x) ∧ Q x h')) (a0 : Nat) (x1 : Int32) (h : Hp) (v : vcX8_decide_0 E d (zkX8_decide_4 E X) (zkX8_decide_45 E X) a0 x1 h Q) : GG E X 9 0 0 0 [some (.ref a0), some (.int x1), none, none, none, none, none, none, none] [] h := by
  refine zg_iconst (v := 0) (q := 1) C dX8_decide_0 (by decide) rfl ?_
  refine zg_istore_n (q := 2) C dX8_decide_1 (by decide) rfl ?_
  refine zg_iconst (v := 0) (q := 3) C dX8_decide_2 (by decide) rfl ?_
  refine zg_istore_n (q := 4) C dX8_decide_3 (by decide) rfl ?_
  exact zg_mask [true, true, true, true, false, false, false, false, false] v
set_option maxRecDepth 100000 in
set_option maxHeartbeats 4000000 in
theorem zsX8_decide_4 {E : Wd} {X : Mx} {d : Nat} {Q : Int32 → Hp → Prop} (C : zz_C E X YX8_decide (d + 1) 0 0 (fun r h' => ∃ x : Int32, r = some (.int x) ∧ Q x h')) (a0 : Nat) (x1 : Int32) (x2 : Int32) (x3 : Int32) (h : Hp) (v : vcX8_decide_4 E d (zkX8_decide_4 E X) (zkX8_decide_45 E X) a0 x1 x2 x3 h Q) : GG E X 9 0 0 4 [some (.ref a0), some (.int x1), some (.int x2), some (.int x3), none, none, none, none, none] [] h := by
  refine zg_iload_n (q := 5) C dX8_decide_4 rfl rfl ?_
  refine zg_aload_n (q := 6) C dX8_decide_5 rfl rfl ?_
  refine zg_get (j := 20) (q := 9) C bX8 (by decide) lkX8_213 dX8_decide_6 rfl (okI.get v.1) ?_
  have v := v.2
  refine zg_icmp_ge (t := 211) (q := 12) C dX8_decide_9 (by decide) rfl (fun c => ?_) (fun c => ?_)
  · have v := v.1 c
    refine zg_iload_n (q := 212) C dX8_decide_211 rfl rfl ?_
    exact zg_zret C rfl dX8_decide_212 ⟨Nat.le_refl _, Nat.le_refl _⟩ v.1 ⟨_, rfl, v.2⟩
  · have v := v.2 c
    refine zg_aload_n (q := 13) C dX8_decide_12 rfl rfl ?_
    refine zg_get (j := 14) (q := 16) C bX8 (by decide) lkX8_42 dX8_decide_13 rfl (okA.get v.1) ?_
    have v := v.2
    refine zg_iload_n (q := 17) C dX8_decide_16 rfl rfl ?_
    refine zg_zald (q := 18) C dX8_decide_17 rfl v.1 ?_
    have v := v.2
    refine zg_if_eq (t := 205) (q := 21) C dX8_decide_18 (by decide) rfl (fun c => ?_) (fun c => ?_)
    · have v := v.1 c
      refine zg_iinc (v := 1) (q := 208) C dX8_decide_205 rfl (by decide) (by decide) rfl ?_
      refine zg_goto (t := 4) C dX8_decide_208 (by decide) ?_
      exact zg_mask [true, true, true, true, false, false, false, false, false] v
    · have v := v.2 c
      refine zg_aload_n (q := 22) C dX8_decide_21 rfl rfl ?_
      refine zg_get (j := 15) (q := 25) C bX8 (by decide) lkX8_46 dX8_decide_22 rfl (okA.get v.1) ?_
      have v := v.2
      refine zg_iload_n (q := 26) C dX8_decide_25 rfl rfl ?_
      refine zg_zald (q := 27) C dX8_decide_26 rfl v.1 ?_
      have v := v.2
      refine zg_if_ne (t := 205) (q := 30) C dX8_decide_27 (by decide) rfl (fun c => ?_) (fun c => ?_)
      · have v := v.1 c
        refine zg_iinc (v := 1) (q := 208) C dX8_decide_205 rfl (by decide) (by decide) rfl ?_
        refine zg_goto (t := 4) C dX8_decide_208 (by decide) ?_
        exact zg_mask [true, true, true, true, false, false, false, false, false] v
      · have v := v.2 c
        refine zg_aload_n (q := 31) C dX8_decide_30 rfl rfl ?_
        refine zg_iconst (v := 0) (q := 32) C dX8_decide_31 (by decide) rfl ?_
        refine zg_iload_n (q := 33) C dX8_decide_32 rfl rfl ?_
        refine zg_cV2V (q := 36) C mX8_findMoves vX8_findMoves lmX8_209 rfl (bX8).1 v.1 (Nat.le_of_ble_eq_true rfl) ⟨Nat.le_refl _, Nat.le_refl _⟩ dX8_decide_33 rfl v.2 (fun h1 v => ?_)
        refine zg_iconst (v := 0) (q := 37) C dX8_decide_36 (by decide) rfl ?_
        refine zg_istore (q := 39) C dX8_decide_37 (by decide) rfl ?_
        refine zg_iconst (v := 1) (q := 40) C dX8_decide_39 (by decide) rfl ?_
        refine zg_istore (q := 42) C dX8_decide_40 (by decide) rfl ?_
        refine zg_iconst (v := 0) (q := 43) C dX8_decide_42 (by decide) rfl ?_
        refine zg_istore (q := 45) C dX8_decide_43 (by decide) rfl ?_
        exact zg_mask [true, true, true, true, true, true, true, false, false] v
set_option maxRecDepth 100000 in
set_option maxHeartbeats 4000000 in
theorem zsX8_decide_188 {E : Wd} {X : Mx} {d : Nat} {Q : Int32 → Hp → Prop} (C : zz_C E X YX8_decide (d + 1) 0 0 (fun r h' => ∃ x : Int32, r = some (.int x) ∧ Q x h')) (a0 : Nat) (x1 : Int32) (x3 : Int32) (s0 : Nat) (s1 : Int32) (s2 : Int32) (h : Hp) (v : vcX8_decide_188 E d (zkX8_decide_4 E X) (zkX8_decide_45 E X) a0 x1 x3 s0 s1 s2 h Q) : GG E X 9 0 0 188 [some (.ref a0), some (.int x1), none, some (.int x3), none, none, none, none, none] [.int s2, .int s1, .ref s0] h := by
  refine zg_iast (q := 189) C dX8_decide_188 rfl v.1 ?_
  have v := v.2 _ rfl
  refine zg_aload_n (q := 190) C dX8_decide_189 rfl rfl ?_
  refine zg_get (j := 18) (q := 193) C bX8 (by decide) lkX8_55 dX8_decide_190 rfl (okA.get v.1) ?_
  have v := v.2
  refine zg_iload_n (q := 194) C dX8_decide_193 rfl rfl ?_
  refine zg_iload_n (q := 195) C dX8_decide_194 rfl rfl ?_
  refine zg_iast (q := 196) C dX8_decide_195 rfl v.1 ?_
  have v := v.2 _ rfl
  refine zg_aload_n (q := 197) C dX8_decide_196 rfl rfl ?_
  refine zg_get (j := 15) (q := 200) C bX8 (by decide) lkX8_46 dX8_decide_197 rfl (okA.get v.1) ?_
  have v := v.2
  refine zg_iload_n (q := 201) C dX8_decide_200 rfl rfl ?_
  refine zg_iconst (v := 1) (q := 202) C dX8_decide_201 (by decide) rfl ?_
  refine zg_zast (q := 203) C dX8_decide_202 rfl v.1 v.2.1 ?_
  have v := v.2.2 _ rfl
  refine zg_iconst (v := 1) (q := 204) C dX8_decide_203 (by decide) rfl ?_
  refine zg_istore_n (q := 205) C dX8_decide_204 (by decide) rfl ?_
  refine zg_iinc (v := 1) (q := 208) C dX8_decide_205 rfl (by decide) (by decide) rfl ?_
  refine zg_goto (t := 4) C dX8_decide_208 (by decide) ?_
  exact zg_mask [true, true, true, true, false, false, false, false, false] v
set_option maxRecDepth 100000 in
set_option maxHeartbeats 4000000 in
theorem zsX8_decide_173 {E : Wd} {X : Mx} {d : Nat} {Q : Int32 → Hp → Prop} (C : zz_C E X YX8_decide (d + 1) 0 0 (fun r h' => ∃ x : Int32, r = some (.int x) ∧ Q x h')) (a0 : Nat) (x1 : Int32) (x3 : Int32) (x4 : Int32) (h : Hp) (v : vcX8_decide_173 E d (zkX8_decide_4 E X) (zkX8_decide_45 E X) a0 x1 x3 x4 h Q) : GG E X 9 0 0 173 [some (.ref a0), some (.int x1), none, some (.int x3), some (.int x4), none, none, none, none] [] h := by
  refine zg_aload_n (q := 174) C dX8_decide_173 rfl rfl ?_
  refine zg_get (j := 17) (q := 177) C bX8 (by decide) lkX8_52 dX8_decide_174 rfl (okA.get v.1) ?_
  have v := v.2
  refine zg_iload_n (q := 178) C dX8_decide_177 rfl rfl ?_
  refine zg_iload (q := 180) C dX8_decide_178 rfl rfl ?_
  refine zg_if_eq (t := 187) (q := 183) C dX8_decide_180 (by decide) rfl (fun c => ?_) (fun c => ?_)
  · have v := v.1 c
    refine zg_iconst (v := (-1)) (q := 188) C dX8_decide_187 (by decide) rfl ?_
    exact zg_mask [true, true, false, true, false, false, false, false, false] (zsX8_decide_188 C _ _ _ _ _ _ _ v)
  · have v := v.2 c
    refine zg_iconst (v := 1) (q := 184) C dX8_decide_183 (by decide) rfl ?_
    refine zg_goto (t := 188) C dX8_decide_184 (by decide) ?_
    exact zg_mask [true, true, false, true, false, false, false, false, false] (zsX8_decide_188 C _ _ _ _ _ _ _ v)
set_option maxRecDepth 100000 in
set_option maxHeartbeats 4000000 in
theorem zsX8_decide_153 {E : Wd} {X : Mx} {d : Nat} {Q : Int32 → Hp → Prop} (C : zz_C E X YX8_decide (d + 1) 0 0 (fun r h' => ∃ x : Int32, r = some (.int x) ∧ Q x h')) (a0 : Nat) (x1 : Int32) (x2 : Int32) (x3 : Int32) (x4 : Int32) (x6 : Int32) (s0 : Int32) (h : Hp) (v : vcX8_decide_153 E d (zkX8_decide_4 E X) (zkX8_decide_45 E X) a0 x1 x2 x3 x4 x6 s0 h Q) : GG E X 9 0 0 153 [some (.ref a0), some (.int x1), some (.int x2), some (.int x3), some (.int x4), none, some (.int x6), none, none] [.int s0] h := by
  refine zg_iconst (v := 0) (q := 154) C dX8_decide_153 (by decide) rfl ?_
  refine zg_iand (q := 155) C dX8_decide_154 rfl ?_
  refine zg_istore (q := 157) C dX8_decide_155 (by decide) rfl ?_
  refine zg_iinc (v := 1) (q := 160) C dX8_decide_157 rfl (by decide) (by decide) rfl ?_
  refine zg_goto (t := 45) C dX8_decide_160 (by decide) ?_
  exact zg_mask [true, true, true, true, true, true, true, false, false] v
set_option maxRecDepth 100000 in
set_option maxHeartbeats 4000000 in
theorem zsX8_decide_128 {E : Wd} {X : Mx} {d : Nat} {Q : Int32 → Hp → Prop} (C : zz_C E X YX8_decide (d + 1) 0 0 (fun r h' => ∃ x : Int32, r = some (.int x) ∧ Q x h')) (a0 : Nat) (x1 : Int32) (x2 : Int32) (x3 : Int32) (x5 : Int32) (x6 : Int32) (x7 : Int32) (x8 : Int32) (s0 : Int32) (s1 : Int32) (h : Hp) (v : vcX8_decide_128 E d (zkX8_decide_4 E X) (zkX8_decide_45 E X) a0 x1 x2 x3 x5 x6 x7 x8 s0 s1 h Q) : GG E X 9 0 0 128 [some (.ref a0), some (.int x1), some (.int x2), some (.int x3), none, some (.int x5), some (.int x6), some (.int x7), some (.int x8)] [.int s1, .int s0] h := by
  refine zg_ior (q := 129) C dX8_decide_128 rfl ?_
  refine zg_istore (q := 131) C dX8_decide_129 (by decide) rfl ?_
  refine zg_iload (q := 133) C dX8_decide_131 rfl rfl ?_
  refine zg_iload (q := 135) C dX8_decide_133 rfl rfl ?_
  refine zg_if_eq (t := 153) (q := 138) C dX8_decide_135 (by decide) rfl (fun c => ?_) (fun c => ?_)
  · have v := v.1 c
    exact zg_mask [true, true, true, true, true, false, true, false, false] (zsX8_decide_153 C _ _ _ _ _ _ _ _ v)
  · have v := v.2 c
    refine zg_aload_n (q := 139) C dX8_decide_138 rfl rfl ?_
    refine zg_get (j := 17) (q := 142) C bX8 (by decide) lkX8_52 dX8_decide_139 rfl (okA.get v.1) ?_
    have v := v.2
    refine zg_iload (q := 144) C dX8_decide_142 rfl rfl ?_
    refine zg_iald (q := 145) C dX8_decide_144 rfl v.1 ?_
    have v := v.2
    refine zg_iconst (v := 1) (q := 146) C dX8_decide_145 (by decide) rfl ?_
    refine zg_icmp_ne (t := 153) (q := 149) C dX8_decide_146 (by decide) rfl (fun c => ?_) (fun c => ?_)
    · have v := v.1 c
      exact zg_mask [true, true, true, true, true, false, true, false, false] (zsX8_decide_153 C _ _ _ _ _ _ _ _ v)
    · have v := v.2 c
      refine zg_iconst (v := 1) (q := 150) C dX8_decide_149 (by decide) rfl ?_
      refine zg_goto (t := 154) C dX8_decide_150 (by decide) ?_
      refine zg_iand (q := 155) C dX8_decide_154 rfl ?_
      refine zg_istore (q := 157) C dX8_decide_155 (by decide) rfl ?_
      refine zg_iinc (v := 1) (q := 160) C dX8_decide_157 rfl (by decide) (by decide) rfl ?_
      refine zg_goto (t := 45) C dX8_decide_160 (by decide) ?_
      exact zg_mask [true, true, true, true, true, true, true, false, false] v
set_option maxRecDepth 100000 in
set_option maxHeartbeats 4000000 in
theorem zsX8_decide_127 {E : Wd} {X : Mx} {d : Nat} {Q : Int32 → Hp → Prop} (C : zz_C E X YX8_decide (d + 1) 0 0 (fun r h' => ∃ x : Int32, r = some (.int x) ∧ Q x h')) (a0 : Nat) (x1 : Int32) (x2 : Int32) (x3 : Int32) (x5 : Int32) (x6 : Int32) (x7 : Int32) (x8 : Int32) (s0 : Int32) (h : Hp) (v : vcX8_decide_127 E d (zkX8_decide_4 E X) (zkX8_decide_45 E X) a0 x1 x2 x3 x5 x6 x7 x8 s0 h Q) : GG E X 9 0 0 127 [some (.ref a0), some (.int x1), some (.int x2), some (.int x3), none, some (.int x5), some (.int x6), some (.int x7), some (.int x8)] [.int s0] h := by
  refine zg_iconst (v := 0) (q := 128) C dX8_decide_127 (by decide) rfl ?_
  exact zg_mask [true, true, true, true, false, true, true, true, true] (zsX8_decide_128 C _ _ _ _ _ _ _ _ _ _ _ v)
set_option maxRecDepth 100000 in
set_option maxHeartbeats 4000000 in
theorem zsX8_decide_103 {E : Wd} {X : Mx} {d : Nat} {Q : Int32 → Hp → Prop} (C : zz_C E X YX8_decide (d + 1) 0 0 (fun r h' => ∃ x : Int32, r = some (.int x) ∧ Q x h')) (a0 : Nat) (x1 : Int32) (x2 : Int32) (x3 : Int32) (x4 : Int32) (x5 : Int32) (x6 : Int32) (x7 : Int32) (s0 : Int32) (h : Hp) (v : vcX8_decide_103 E d (zkX8_decide_4 E X) (zkX8_decide_45 E X) a0 x1 x2 x3 x4 x5 x6 x7 s0 h Q) : GG E X 9 0 0 103 [some (.ref a0), some (.int x1), some (.int x2), some (.int x3), some (.int x4), some (.int x5), some (.int x6), some (.int x7), none] [.int s0] h := by
  refine zg_istore (q := 105) C dX8_decide_103 (by decide) rfl ?_
  refine zg_iload (q := 107) C dX8_decide_105 rfl rfl ?_
  refine zg_iload (q := 109) C dX8_decide_107 rfl rfl ?_
  refine zg_if_eq (t := 127) (q := 112) C dX8_decide_109 (by decide) rfl (fun c => ?_) (fun c => ?_)
  · have v := v.1 c
    exact zg_mask [true, true, true, true, false, true, true, true, true] (zsX8_decide_127 C _ _ _ _ _ _ _ _ _ _ v)
  · have v := v.2 c
    refine zg_aload_n (q := 113) C dX8_decide_112 rfl rfl ?_
    refine zg_get (j := 17) (q := 116) C bX8 (by decide) lkX8_52 dX8_decide_113 rfl (okA.get v.1) ?_
    have v := v.2
    refine zg_iload (q := 118) C dX8_decide_116 rfl rfl ?_
    refine zg_iald (q := 119) C dX8_decide_118 rfl v.1 ?_
    have v := v.2
    refine zg_iconst (v := (-1)) (q := 120) C dX8_decide_119 (by decide) rfl ?_
    refine zg_icmp_ne (t := 127) (q := 123) C dX8_decide_120 (by decide) rfl (fun c => ?_) (fun c => ?_)
    · have v := v.1 c
      exact zg_mask [true, true, true, true, false, true, true, true, true] (zsX8_decide_127 C _ _ _ _ _ _ _ _ _ _ v)
    · have v := v.2 c
      refine zg_iconst (v := 1) (q := 124) C dX8_decide_123 (by decide) rfl ?_
      refine zg_goto (t := 128) C dX8_decide_124 (by decide) ?_
      exact zg_mask [true, true, true, true, false, true, true, true, true] (zsX8_decide_128 C _ _ _ _ _ _ _ _ _ _ _ v)
set_option maxRecDepth 100000 in
set_option maxHeartbeats 4000000 in
theorem zsX8_decide_102 {E : Wd} {X : Mx} {d : Nat} {Q : Int32 → Hp → Prop} (C : zz_C E X YX8_decide (d + 1) 0 0 (fun r h' => ∃ x : Int32, r = some (.int x) ∧ Q x h')) (a0 : Nat) (x1 : Int32) (x2 : Int32) (x3 : Int32) (x4 : Int32) (x5 : Int32) (x6 : Int32) (x7 : Int32) (h : Hp) (v : vcX8_decide_102 E d (zkX8_decide_4 E X) (zkX8_decide_45 E X) a0 x1 x2 x3 x4 x5 x6 x7 h Q) : GG E X 9 0 0 102 [some (.ref a0), some (.int x1), some (.int x2), some (.int x3), some (.int x4), some (.int x5), some (.int x6), some (.int x7), none] [] h := by
  refine zg_iconst (v := 0) (q := 103) C dX8_decide_102 (by decide) rfl ?_
  exact zg_mask [true, true, true, true, true, true, true, true, false] (zsX8_decide_103 C _ _ _ _ _ _ _ _ _ _ v)
set_option maxRecDepth 100000 in
set_option maxHeartbeats 4000000 in
theorem zsX8_decide_45 {E : Wd} {X : Mx} {d : Nat} {Q : Int32 → Hp → Prop} (C : zz_C E X YX8_decide (d + 1) 0 0 (fun r h' => ∃ x : Int32, r = some (.int x) ∧ Q x h')) (a0 : Nat) (x1 : Int32) (x2 : Int32) (x3 : Int32) (x4 : Int32) (x5 : Int32) (x6 : Int32) (h : Hp) (v : vcX8_decide_45 E d (zkX8_decide_4 E X) (zkX8_decide_45 E X) a0 x1 x2 x3 x4 x5 x6 h Q) : GG E X 9 0 0 45 [some (.ref a0), some (.int x1), some (.int x2), some (.int x3), some (.int x4), some (.int x5), some (.int x6), none, none] [] h := by
  refine zg_iload (q := 47) C dX8_decide_45 rfl rfl ?_
  refine zg_aload_n (q := 48) C dX8_decide_47 rfl rfl ?_
  refine zg_get (j := 9) (q := 51) C bX8 (by decide) lkX8_27 dX8_decide_48 rfl (okA.get v.1) ?_
  have v := v.2
  refine zg_iconst (v := 0) (q := 52) C dX8_decide_51 (by decide) rfl ?_
  refine zg_iald (q := 53) C dX8_decide_52 rfl v.1 ?_
  have v := v.2
  refine zg_icmp_ge (t := 163) (q := 56) C dX8_decide_53 (by decide) rfl (fun c => ?_) (fun c => ?_)
  · have v := v.1 c
    refine zg_iload (q := 165) C dX8_decide_163 rfl rfl ?_
    refine zg_if_ne (t := 173) (q := 168) C dX8_decide_165 (by decide) rfl (fun c => ?_) (fun c => ?_)
    · have v := v.1 c
      exact zg_mask [true, true, false, true, true, false, false, false, false] (zsX8_decide_173 C _ _ _ _ _ v)
    · have v := v.2 c
      refine zg_iload (q := 170) C dX8_decide_168 rfl rfl ?_
      refine zg_if_eq (t := 205) (q := 173) C dX8_decide_170 (by decide) rfl (fun c => ?_) (fun c => ?_)
      · have v := v.1 c
        refine zg_iinc (v := 1) (q := 208) C dX8_decide_205 rfl (by decide) (by decide) rfl ?_
        refine zg_goto (t := 4) C dX8_decide_208 (by decide) ?_
        exact zg_mask [true, true, true, true, false, false, false, false, false] v
      · have v := v.2 c
        exact zg_mask [true, true, false, true, true, false, false, false, false] (zsX8_decide_173 C _ _ _ _ _ v)
  · have v := v.2 c
    refine zg_aload_n (q := 57) C dX8_decide_56 rfl rfl ?_
    refine zg_get (j := 13) (q := 60) C bX8 (by decide) lkX8_39 dX8_decide_57 rfl (okA.get v.1) ?_
    have v := v.2
    refine zg_iconst (v := 0) (q := 61) C dX8_decide_60 (by decide) rfl ?_
    refine zg_aald (q := 62) C dX8_decide_61 rfl v.1 ?_
    have v := v.2
    refine zg_iload (q := 64) C dX8_decide_62 rfl rfl ?_
    refine zg_iald (q := 65) C dX8_decide_64 rfl v.1 ?_
    have v := v.2
    refine zg_istore (q := 67) C dX8_decide_65 (by decide) rfl ?_
    refine zg_aload_n (q := 68) C dX8_decide_67 rfl rfl ?_
    refine zg_get (j := 15) (q := 71) C bX8 (by decide) lkX8_46 dX8_decide_68 rfl (okA.get v.1) ?_
    have v := v.2
    refine zg_iload (q := 73) C dX8_decide_71 rfl rfl ?_
    refine zg_zald (q := 74) C dX8_decide_73 rfl v.1 ?_
    have v := v.2
    refine zg_if_eq (t := 102) (q := 77) C dX8_decide_74 (by decide) rfl (fun c => ?_) (fun c => ?_)
    · have v := v.1 c
      exact zg_mask [true, true, true, true, true, true, true, true, false] (zsX8_decide_102 C _ _ _ _ _ _ _ _ _ v)
    · have v := v.2 c
      refine zg_aload_n (q := 78) C dX8_decide_77 rfl rfl ?_
      refine zg_get (j := 18) (q := 81) C bX8 (by decide) lkX8_55 dX8_decide_78 rfl (okA.get v.1) ?_
      have v := v.2
      refine zg_iload (q := 83) C dX8_decide_81 rfl rfl ?_
      refine zg_iald (q := 84) C dX8_decide_83 rfl v.1 ?_
      have v := v.2
      refine zg_if_lt (t := 102) (q := 87) C dX8_decide_84 (by decide) rfl (fun c => ?_) (fun c => ?_)
      · have v := v.1 c
        exact zg_mask [true, true, true, true, true, true, true, true, false] (zsX8_decide_102 C _ _ _ _ _ _ _ _ _ v)
      · have v := v.2 c
        refine zg_aload_n (q := 88) C dX8_decide_87 rfl rfl ?_
        refine zg_get (j := 18) (q := 91) C bX8 (by decide) lkX8_55 dX8_decide_88 rfl (okA.get v.1) ?_
        have v := v.2
        refine zg_iload (q := 93) C dX8_decide_91 rfl rfl ?_
        refine zg_iald (q := 94) C dX8_decide_93 rfl v.1 ?_
        have v := v.2
        refine zg_iload_n (q := 95) C dX8_decide_94 rfl rfl ?_
        refine zg_icmp_ge (t := 102) (q := 98) C dX8_decide_95 (by decide) rfl (fun c => ?_) (fun c => ?_)
        · have v := v.1 c
          exact zg_mask [true, true, true, true, true, true, true, true, false] (zsX8_decide_102 C _ _ _ _ _ _ _ _ _ v)
        · have v := v.2 c
          refine zg_iconst (v := 1) (q := 99) C dX8_decide_98 (by decide) rfl ?_
          refine zg_goto (t := 103) C dX8_decide_99 (by decide) ?_
          exact zg_mask [true, true, true, true, true, true, true, true, false] (zsX8_decide_103 C _ _ _ _ _ _ _ _ _ _ v)
theorem rnX8_decide {E : Wd} {d : Nat} {a0 : Nat} {x1 : Int32} {h : Hp} {Q : Int32 → Hp → Prop} (k : ∀ (K4 : Nat → Int32 → Int32 → Int32 → Hp → Prop) (K45 : Nat → Int32 → Int32 → Int32 → Int32 → Int32 → Int32 → Hp → Prop),(∀ (a0 : Nat) (x1 : Int32) (x2 : Int32) (x3 : Int32) h, vcX8_decide_4 E d K4 K45 a0 x1 x2 x3 h Q → K4 a0 x1 x2 x3 h) → (∀ (a0 : Nat) (x1 : Int32) (x2 : Int32) (x3 : Int32) (x4 : Int32) (x5 : Int32) (x6 : Int32) h, vcX8_decide_45 E d K4 K45 a0 x1 x2 x3 x4 x5 x6 h Q → K45 a0 x1 x2 x3 x4 x5 x6 h) → vcX8_decide_0 E d K4 K45 a0 x1 h Q) : OkI E YX8_decide (d + 1) [.ref a0, .int x1] h Q :=
  zz_body2 (r := 7) mX8_decide (zc_a (zc_i zc_n)) (Nat.le_of_ble_eq_true rfl) (fun X C => zsX8_decide_0 C a0 x1 h (k (zkX8_decide_4 E X) (zkX8_decide_45 E X) (fun a0 x1 x2 x3 h v => zsX8_decide_4 C a0 x1 x2 x3 h v) (fun a0 x1 x2 x3 x4 x5 x6 h v => zsX8_decide_45 C a0 x1 x2 x3 x4 x5 x6 h v)))
def vcX8_convert_0 (E : Wd) (d : Nat) (K4 : Nat → Int32 → Int32 → Int32 → Hp → Prop) (K54 : Nat → Int32 → Int32 → Int32 → Int32 → Int32 → Int32 → Hp → Prop) (a0 : Nat) (x1 : Int32) (h : Hp) (Q : Int32 → Hp → Prop) : Prop :=
  K4 a0 x1 0 0 h
def vcX8_convert_4 (E : Wd) (d : Nat) (K4 : Nat → Int32 → Int32 → Int32 → Hp → Prop) (K54 : Nat → Int32 → Int32 → Int32 → Int32 → Int32 → Int32 → Hp → Prop) (a0 : Nat) (x1 : Int32) (x2 : Int32) (x3 : Int32) (h : Hp) (Q : Int32 → Hp → Prop) : Prop :=
  okI h a0 8 20 ∧ ((fI h a0 20) ≤ x3 → mB x2 ∧ Q x2 h) ∧ (¬ (fI h a0 20) ≤ x3 → okA h a0 8 14 ∧ okR E h (fA h a0 14) 1 x3 ∧ ((gA h (fA h a0 14) x3) = (0 : Int32) → K4 a0 x1 x2 (x3 + 1) h) ∧ (¬ (gA h (fA h a0 14) x3) = (0 : Int32) → okA h a0 8 15 ∧ okR E h (fA h a0 15) 1 x3 ∧ ((gA h (fA h a0 15) x3) = (0 : Int32) → K4 a0 x1 x2 (x3 + 1) h) ∧ (¬ (gA h (fA h a0 15) x3) = (0 : Int32) → okA h a0 8 16 ∧ okR E h (fA h a0 16) 1 x3 ∧ (¬ (gA h (fA h a0 16) x3) = (0 : Int32) → K4 a0 x1 x2 (x3 + 1) h) ∧ ((gA h (fA h a0 16) x3) = (0 : Int32) → isO h a0 8 ∧ OkV E YX8_findMoves d [.ref a0, .int 0, .int x3] h (fun h1 => K54 a0 x1 x2 x3 0 1 0 h1)))))
def vcX8_convert_200 (E : Wd) (d : Nat) (K4 : Nat → Int32 → Int32 → Int32 → Hp → Prop) (K54 : Nat → Int32 → Int32 → Int32 → Int32 → Int32 → Int32 → Hp → Prop) (a0 : Nat) (x1 : Int32) (x3 : Int32) (h : Hp) (Q : Int32 → Hp → Prop) : Prop :=
  okA h a0 8 19 ∧ okR E h (fA h a0 19) 0 x3 ∧ ∀ h1, h1 = sA h (fA h a0 19) x3 x1 → okA h1 a0 8 16 ∧ okR E h1 (fA h1 a0 16) 1 x3 ∧ mB 1 ∧ ∀ h2, h2 = sA h1 (fA h1 a0 16) x3 1 → K4 a0 x1 1 (x3 + 1) h2
def vcX8_convert_161 (E : Wd) (d : Nat) (K4 : Nat → Int32 → Int32 → Int32 → Hp → Prop) (K54 : Nat → Int32 → Int32 → Int32 → Int32 → Int32 → Int32 → Hp → Prop) (a0 : Nat) (x1 : Int32) (x2 : Int32) (x3 : Int32) (x5 : Int32) (x6 : Int32) (x9 : Int32) (s0 : Int32) (s1 : Int32) (h : Hp) (Q : Int32 → Hp → Prop) : Prop :=
  K54 a0 x1 x2 x3 (s0 ||| s1) (x5 &&& x9) (x6 + 1) h
def vcX8_convert_160 (E : Wd) (d : Nat) (K4 : Nat → Int32 → Int32 → Int32 → Hp → Prop) (K54 : Nat → Int32 → Int32 → Int32 → Int32 → Int32 → Int32 → Hp → Prop) (a0 : Nat) (x1 : Int32) (x2 : Int32) (x3 : Int32) (x5 : Int32) (x6 : Int32) (x9 : Int32) (s0 : Int32) (h : Hp) (Q : Int32 → Hp → Prop) : Prop :=
  vcX8_convert_161 E d K4 K54 a0 x1 x2 x3 x5 x6 x9 s0 0 h Q
def vcX8_convert_136 (E : Wd) (d : Nat) (K4 : Nat → Int32 → Int32 → Int32 → Hp → Prop) (K54 : Nat → Int32 → Int32 → Int32 → Int32 → Int32 → Int32 → Hp → Prop) (a0 : Nat) (x1 : Int32) (x2 : Int32) (x3 : Int32) (x4 : Int32) (x5 : Int32) (x6 : Int32) (x7 : Int32) (s0 : Int32) (h : Hp) (Q : Int32 → Hp → Prop) : Prop :=
  (s0 = (0 : Int32) → vcX8_convert_160 E d K4 K54 a0 x1 x2 x3 x5 x6 s0 x4 h Q) ∧ (¬ s0 = (0 : Int32) → okA h a0 8 17 ∧ okR E h (fA h a0 17) 0 x7 ∧ (¬ (gA h (fA h a0 17) x7) = ((-1)) → vcX8_convert_160 E d K4 K54 a0 x1 x2 x3 x5 x6 s0 x4 h Q) ∧ ((gA h (fA h a0 17) x7) = ((-1)) → vcX8_convert_161 E d K4 K54 a0 x1 x2 x3 x5 x6 s0 x4 1 h Q))
def vcX8_convert_131 (E : Wd) (d : Nat) (K4 : Nat → Int32 → Int32 → Int32 → Hp → Prop) (K54 : Nat → Int32 → Int32 → Int32 → Int32 → Int32 → Int32 → Hp → Prop) (a0 : Nat) (x1 : Int32) (x2 : Int32) (x3 : Int32) (x4 : Int32) (x5 : Int32) (x6 : Int32) (x7 : Int32) (h : Hp) (Q : Int32 → Hp → Prop) : Prop :=
  vcX8_convert_136 E d K4 K54 a0 x1 x2 x3 x4 x5 x6 x7 1 h Q
def vcX8_convert_135 (E : Wd) (d : Nat) (K4 : Nat → Int32 → Int32 → Int32 → Hp → Prop) (K54 : Nat → Int32 → Int32 → Int32 → Int32 → Int32 → Int32 → Hp → Prop) (a0 : Nat) (x1 : Int32) (x2 : Int32) (x3 : Int32) (x4 : Int32) (x5 : Int32) (x6 : Int32) (x7 : Int32) (h : Hp) (Q : Int32 → Hp → Prop) : Prop :=
  vcX8_convert_136 E d K4 K54 a0 x1 x2 x3 x4 x5 x6 x7 0 h Q
def vcX8_convert_103 (E : Wd) (d : Nat) (K4 : Nat → Int32 → Int32 → Int32 → Hp → Prop) (K54 : Nat → Int32 → Int32 → Int32 → Int32 → Int32 → Int32 → Hp → Prop) (a0 : Nat) (x1 : Int32) (x2 : Int32) (x3 : Int32) (x4 : Int32) (x5 : Int32) (x6 : Int32) (x7 : Int32) (s0 : Int32) (h : Hp) (Q : Int32 → Hp → Prop) : Prop :=
  (¬ s0 = (0 : Int32) → vcX8_convert_131 E d K4 K54 a0 x1 x2 x3 x4 x5 x6 x7 h Q) ∧ (s0 = (0 : Int32) → okA h a0 8 16 ∧ okR E h (fA h a0 16) 1 x7 ∧ ((gA h (fA h a0 16) x7) = (0 : Int32) → vcX8_convert_135 E d K4 K54 a0 x1 x2 x3 x4 x5 x6 x7 h Q) ∧ (¬ (gA h (fA h a0 16) x7) = (0 : Int32) → okA h a0 8 19 ∧ okR E h (fA h a0 19) 0 x7 ∧ (x1 ≤ (gA h (fA h a0 19) x7) → vcX8_convert_135 E d K4 K54 a0 x1 x2 x3 x4 x5 x6 x7 h Q) ∧ (¬ x1 ≤ (gA h (fA h a0 19) x7) → vcX8_convert_131 E d K4 K54 a0 x1 x2 x3 x4 x5 x6 x7 h Q)))
def vcX8_convert_98 (E : Wd) (d : Nat) (K4 : Nat → Int32 → Int32 → Int32 → Hp → Prop) (K54 : Nat → Int32 → Int32 → Int32 → Int32 → Int32 → Int32 → Hp → Prop) (a0 : Nat) (x1 : Int32) (x2 : Int32) (x3 : Int32) (x4 : Int32) (x5 : Int32) (x6 : Int32) (x7 : Int32) (h : Hp) (Q : Int32 → Hp → Prop) : Prop :=
  vcX8_convert_103 E d K4 K54 a0 x1 x2 x3 x4 x5 x6 x7 1 h Q
def vcX8_convert_54 (E : Wd) (d : Nat) (K4 : Nat → Int32 → Int32 → Int32 → Hp → Prop) (K54 : Nat → Int32 → Int32 → Int32 → Int32 → Int32 → Int32 → Hp → Prop) (a0 : Nat) (x1 : Int32) (x2 : Int32) (x3 : Int32) (x4 : Int32) (x5 : Int32) (x6 : Int32) (h : Hp) (Q : Int32 → Hp → Prop) : Prop :=
  okA h a0 8 9 ∧ okR E h (fA h a0 9) 0 0 ∧ ((gA h (fA h a0 9) 0) ≤ x6 → okA h a0 8 17 ∧ okR E h (fA h a0 17) 0 x3 ∧ (¬ (gA h (fA h a0 17) x3) = (1 : Int32) → (x5 = (0 : Int32) → K4 a0 x1 x2 (x3 + 1) h) ∧ (¬ x5 = (0 : Int32) → vcX8_convert_200 E d K4 K54 a0 x1 x3 h Q)) ∧ ((gA h (fA h a0 17) x3) = (1 : Int32) → (x4 = (0 : Int32) → K4 a0 x1 x2 (x3 + 1) h) ∧ (¬ x4 = (0 : Int32) → vcX8_convert_200 E d K4 K54 a0 x1 x3 h Q))) ∧ (¬ (gA h (fA h a0 9) 0) ≤ x6 → okA h a0 8 13 ∧ okW E h (fA h a0 13) 0 ∧ okR E h (gW h (fA h a0 13) 0) 0 x6 ∧ okA h a0 8 12 ∧ okW E h (fA h a0 12) 0 ∧ okR E h (gW h (fA h a0 12) 0) 0 x6 ∧ ((0 : Int32) ≤ (gA h (gW h (fA h a0 12) 0) x6) → vcX8_convert_98 E d K4 K54 a0 x1 x2 x3 x4 x5 x6 (gA h (gW h (fA h a0 13) 0) x6) h Q) ∧ (¬ (0 : Int32) ≤ (gA h (gW h (fA h a0 12) 0) x6) → okA h a0 8 18 ∧ okR E h (fA h a0 18) 0 (gA h (gW h (fA h a0 13) 0) x6) ∧ (¬ (gA h (fA h a0 18) (gA h (gW h (fA h a0 13) 0) x6)) = (0 : Int32) → vcX8_convert_103 E d K4 K54 a0 x1 x2 x3 x4 x5 x6 (gA h (gW h (fA h a0 13) 0) x6) 0 h Q) ∧ ((gA h (fA h a0 18) (gA h (gW h (fA h a0 13) 0) x6)) = (0 : Int32) → vcX8_convert_98 E d K4 K54 a0 x1 x2 x3 x4 x5 x6 (gA h (gW h (fA h a0 13) 0) x6) h Q)))
def zkX8_convert_4 (E : Wd) (X : Mx) : Nat → Int32 → Int32 → Int32 → Hp → Prop := fun a0 x1 x2 x3 h => GG E X 10 0 0 4 [some (.ref a0), some (.int x1), some (.int x2), some (.int x3), none, none, none, none, none, none] [] h
def zkX8_convert_54 (E : Wd) (X : Mx) : Nat → Int32 → Int32 → Int32 → Int32 → Int32 → Int32 → Hp → Prop := fun a0 x1 x2 x3 x4 x5 x6 h => GG E X 10 0 0 54 [some (.ref a0), some (.int x1), some (.int x2), some (.int x3), some (.int x4), some (.int x5), some (.int x6), none, none, none] [] h
set_option maxRecDepth 100000 in
set_option maxHeartbeats 4000000 in
theorem zsX8_convert_0 {E : Wd} {X : Mx} {d : Nat} {Q : Int32 → Hp → Prop} (C : zz_C E X YX8_convert (d + 1) 0 0 (fun r h' => ∃ x : Int32, r = some (.int x) ∧ Q x h')) (a0 : Nat) (x1 : Int32) (h : Hp) (v : vcX8_convert_0 E d (zkX8_convert_4 E X) (zkX8_convert_54 E X) a0 x1 h Q) : GG E X 10 0 0 0 [some (.ref a0), some (.int x1), none, none, none, none, none, none, none, none] [] h := by
  refine zg_iconst (v := 0) (q := 1) C dX8_convert_0 (by decide) rfl ?_
  refine zg_istore_n (q := 2) C dX8_convert_1 (by decide) rfl ?_
  refine zg_iconst (v := 0) (q := 3) C dX8_convert_2 (by decide) rfl ?_
  refine zg_istore_n (q := 4) C dX8_convert_3 (by decide) rfl ?_
  exact zg_mask [true, true, true, true, false, false, false, false, false, false] v
set_option maxRecDepth 100000 in
set_option maxHeartbeats 4000000 in
theorem zsX8_convert_4 {E : Wd} {X : Mx} {d : Nat} {Q : Int32 → Hp → Prop} (C : zz_C E X YX8_convert (d + 1) 0 0 (fun r h' => ∃ x : Int32, r = some (.int x) ∧ Q x h')) (a0 : Nat) (x1 : Int32) (x2 : Int32) (x3 : Int32) (h : Hp) (v : vcX8_convert_4 E d (zkX8_convert_4 E X) (zkX8_convert_54 E X) a0 x1 x2 x3 h Q) : GG E X 10 0 0 4 [some (.ref a0), some (.int x1), some (.int x2), some (.int x3), none, none, none, none, none, none] [] h := by
  refine zg_iload_n (q := 5) C dX8_convert_4 rfl rfl ?_
  refine zg_aload_n (q := 6) C dX8_convert_5 rfl rfl ?_
  refine zg_get (j := 20) (q := 9) C bX8 (by decide) lkX8_213 dX8_convert_6 rfl (okI.get v.1) ?_
  have v := v.2
  refine zg_icmp_ge (t := 222) (q := 12) C dX8_convert_9 (by decide) rfl (fun c => ?_) (fun c => ?_)
  · have v := v.1 c
    refine zg_iload_n (q := 223) C dX8_convert_222 rfl rfl ?_
    exact zg_zret C rfl dX8_convert_223 ⟨Nat.le_refl _, Nat.le_refl _⟩ v.1 ⟨_, rfl, v.2⟩
  · have v := v.2 c
    refine zg_aload_n (q := 13) C dX8_convert_12 rfl rfl ?_
    refine zg_get (j := 14) (q := 16) C bX8 (by decide) lkX8_42 dX8_convert_13 rfl (okA.get v.1) ?_
    have v := v.2
    refine zg_iload_n (q := 17) C dX8_convert_16 rfl rfl ?_
    refine zg_zald (q := 18) C dX8_convert_17 rfl v.1 ?_
    have v := v.2
    refine zg_if_eq (t := 216) (q := 21) C dX8_convert_18 (by decide) rfl (fun c => ?_) (fun c => ?_)
    · have v := v.1 c
      refine zg_iinc (v := 1) (q := 219) C dX8_convert_216 rfl (by decide) (by decide) rfl ?_
      refine zg_goto (t := 4) C dX8_convert_219 (by decide) ?_
      exact zg_mask [true, true, true, true, false, false, false, false, false, false] v
    · have v := v.2 c
      refine zg_aload_n (q := 22) C dX8_convert_21 rfl rfl ?_
      refine zg_get (j := 15) (q := 25) C bX8 (by decide) lkX8_46 dX8_convert_22 rfl (okA.get v.1) ?_
      have v := v.2
      refine zg_iload_n (q := 26) C dX8_convert_25 rfl rfl ?_
      refine zg_zald (q := 27) C dX8_convert_26 rfl v.1 ?_
      have v := v.2
      refine zg_if_eq (t := 216) (q := 30) C dX8_convert_27 (by decide) rfl (fun c => ?_) (fun c => ?_)
      · have v := v.1 c
        refine zg_iinc (v := 1) (q := 219) C dX8_convert_216 rfl (by decide) (by decide) rfl ?_
        refine zg_goto (t := 4) C dX8_convert_219 (by decide) ?_
        exact zg_mask [true, true, true, true, false, false, false, false, false, false] v
      · have v := v.2 c
        refine zg_aload_n (q := 31) C dX8_convert_30 rfl rfl ?_
        refine zg_get (j := 16) (q := 34) C bX8 (by decide) lkX8_49 dX8_convert_31 rfl (okA.get v.1) ?_
        have v := v.2
        refine zg_iload_n (q := 35) C dX8_convert_34 rfl rfl ?_
        refine zg_zald (q := 36) C dX8_convert_35 rfl v.1 ?_
        have v := v.2
        refine zg_if_ne (t := 216) (q := 39) C dX8_convert_36 (by decide) rfl (fun c => ?_) (fun c => ?_)
        · have v := v.1 c
          refine zg_iinc (v := 1) (q := 219) C dX8_convert_216 rfl (by decide) (by decide) rfl ?_
          refine zg_goto (t := 4) C dX8_convert_219 (by decide) ?_
          exact zg_mask [true, true, true, true, false, false, false, false, false, false] v
        · have v := v.2 c
          refine zg_aload_n (q := 40) C dX8_convert_39 rfl rfl ?_
          refine zg_iconst (v := 0) (q := 41) C dX8_convert_40 (by decide) rfl ?_
          refine zg_iload_n (q := 42) C dX8_convert_41 rfl rfl ?_
          refine zg_cV2V (q := 45) C mX8_findMoves vX8_findMoves lmX8_209 rfl (bX8).1 v.1 (Nat.le_of_ble_eq_true rfl) ⟨Nat.le_refl _, Nat.le_refl _⟩ dX8_convert_42 rfl v.2 (fun h1 v => ?_)
          refine zg_iconst (v := 0) (q := 46) C dX8_convert_45 (by decide) rfl ?_
          refine zg_istore (q := 48) C dX8_convert_46 (by decide) rfl ?_
          refine zg_iconst (v := 1) (q := 49) C dX8_convert_48 (by decide) rfl ?_
          refine zg_istore (q := 51) C dX8_convert_49 (by decide) rfl ?_
          refine zg_iconst (v := 0) (q := 52) C dX8_convert_51 (by decide) rfl ?_
          refine zg_istore (q := 54) C dX8_convert_52 (by decide) rfl ?_
          exact zg_mask [true, true, true, true, true, true, true, false, false, false] v
set_option maxRecDepth 100000 in
set_option maxHeartbeats 4000000 in
theorem zsX8_convert_200 {E : Wd} {X : Mx} {d : Nat} {Q : Int32 → Hp → Prop} (C : zz_C E X YX8_convert (d + 1) 0 0 (fun r h' => ∃ x : Int32, r = some (.int x) ∧ Q x h')) (a0 : Nat) (x1 : Int32) (x3 : Int32) (h : Hp) (v : vcX8_convert_200 E d (zkX8_convert_4 E X) (zkX8_convert_54 E X) a0 x1 x3 h Q) : GG E X 10 0 0 200 [some (.ref a0), some (.int x1), none, some (.int x3), none, none, none, none, none, none] [] h := by
  refine zg_aload_n (q := 201) C dX8_convert_200 rfl rfl ?_
  refine zg_get (j := 19) (q := 204) C bX8 (by decide) lkX8_58 dX8_convert_201 rfl (okA.get v.1) ?_
  have v := v.2
  refine zg_iload_n (q := 205) C dX8_convert_204 rfl rfl ?_
  refine zg_iload_n (q := 206) C dX8_convert_205 rfl rfl ?_
  refine zg_iast (q := 207) C dX8_convert_206 rfl v.1 ?_
  have v := v.2 _ rfl
  refine zg_aload_n (q := 208) C dX8_convert_207 rfl rfl ?_
  refine zg_get (j := 16) (q := 211) C bX8 (by decide) lkX8_49 dX8_convert_208 rfl (okA.get v.1) ?_
  have v := v.2
  refine zg_iload_n (q := 212) C dX8_convert_211 rfl rfl ?_
  refine zg_iconst (v := 1) (q := 213) C dX8_convert_212 (by decide) rfl ?_
  refine zg_zast (q := 214) C dX8_convert_213 rfl v.1 v.2.1 ?_
  have v := v.2.2 _ rfl
  refine zg_iconst (v := 1) (q := 215) C dX8_convert_214 (by decide) rfl ?_
  refine zg_istore_n (q := 216) C dX8_convert_215 (by decide) rfl ?_
  refine zg_iinc (v := 1) (q := 219) C dX8_convert_216 rfl (by decide) (by decide) rfl ?_
  refine zg_goto (t := 4) C dX8_convert_219 (by decide) ?_
  exact zg_mask [true, true, true, true, false, false, false, false, false, false] v
set_option maxRecDepth 100000 in
set_option maxHeartbeats 4000000 in
theorem zsX8_convert_161 {E : Wd} {X : Mx} {d : Nat} {Q : Int32 → Hp → Prop} (C : zz_C E X YX8_convert (d + 1) 0 0 (fun r h' => ∃ x : Int32, r = some (.int x) ∧ Q x h')) (a0 : Nat) (x1 : Int32) (x2 : Int32) (x3 : Int32) (x5 : Int32) (x6 : Int32) (x9 : Int32) (s0 : Int32) (s1 : Int32) (h : Hp) (v : vcX8_convert_161 E d (zkX8_convert_4 E X) (zkX8_convert_54 E X) a0 x1 x2 x3 x5 x6 x9 s0 s1 h Q) : GG E X 10 0 0 161 [some (.ref a0), some (.int x1), some (.int x2), some (.int x3), none, some (.int x5), some (.int x6), none, none, some (.int x9)] [.int s1, .int s0] h := by
  refine zg_ior (q := 162) C dX8_convert_161 rfl ?_
  refine zg_istore (q := 164) C dX8_convert_162 (by decide) rfl ?_
  refine zg_iload (q := 166) C dX8_convert_164 rfl rfl ?_
  refine zg_iload (q := 168) C dX8_convert_166 rfl rfl ?_
  refine zg_iand (q := 169) C dX8_convert_168 rfl ?_
  refine zg_istore (q := 171) C dX8_convert_169 (by decide) rfl ?_
  refine zg_iinc (v := 1) (q := 174) C dX8_convert_171 rfl (by decide) (by decide) rfl ?_
  refine zg_goto (t := 54) C dX8_convert_174 (by decide) ?_
  exact zg_mask [true, true, true, true, true, true, true, false, false, false] v
set_option maxRecDepth 100000 in
set_option maxHeartbeats 4000000 in
theorem zsX8_convert_160 {E : Wd} {X : Mx} {d : Nat} {Q : Int32 → Hp → Prop} (C : zz_C E X YX8_convert (d + 1) 0 0 (fun r h' => ∃ x : Int32, r = some (.int x) ∧ Q x h')) (a0 : Nat) (x1 : Int32) (x2 : Int32) (x3 : Int32) (x5 : Int32) (x6 : Int32) (x9 : Int32) (s0 : Int32) (h : Hp) (v : vcX8_convert_160 E d (zkX8_convert_4 E X) (zkX8_convert_54 E X) a0 x1 x2 x3 x5 x6 x9 s0 h Q) : GG E X 10 0 0 160 [some (.ref a0), some (.int x1), some (.int x2), some (.int x3), none, some (.int x5), some (.int x6), none, none, some (.int x9)] [.int s0] h := by
  refine zg_iconst (v := 0) (q := 161) C dX8_convert_160 (by decide) rfl ?_
  exact zg_mask [true, true, true, true, false, true, true, false, false, true] (zsX8_convert_161 C _ _ _ _ _ _ _ _ _ _ v)
set_option maxRecDepth 100000 in
set_option maxHeartbeats 4000000 in
theorem zsX8_convert_136 {E : Wd} {X : Mx} {d : Nat} {Q : Int32 → Hp → Prop} (C : zz_C E X YX8_convert (d + 1) 0 0 (fun r h' => ∃ x : Int32, r = some (.int x) ∧ Q x h')) (a0 : Nat) (x1 : Int32) (x2 : Int32) (x3 : Int32) (x4 : Int32) (x5 : Int32) (x6 : Int32) (x7 : Int32) (s0 : Int32) (h : Hp) (v : vcX8_convert_136 E d (zkX8_convert_4 E X) (zkX8_convert_54 E X) a0 x1 x2 x3 x4 x5 x6 x7 s0 h Q) : GG E X 10 0 0 136 [some (.ref a0), some (.int x1), some (.int x2), some (.int x3), some (.int x4), some (.int x5), some (.int x6), some (.int x7), none, none] [.int s0] h := by
  refine zg_istore (q := 138) C dX8_convert_136 (by decide) rfl ?_
  refine zg_iload (q := 140) C dX8_convert_138 rfl rfl ?_
  refine zg_iload (q := 142) C dX8_convert_140 rfl rfl ?_
  refine zg_if_eq (t := 160) (q := 145) C dX8_convert_142 (by decide) rfl (fun c => ?_) (fun c => ?_)
  · have v := v.1 c
    exact zg_mask [true, true, true, true, false, true, true, false, false, true] (zsX8_convert_160 C _ _ _ _ _ _ _ _ _ v)
  · have v := v.2 c
    refine zg_aload_n (q := 146) C dX8_convert_145 rfl rfl ?_
    refine zg_get (j := 17) (q := 149) C bX8 (by decide) lkX8_52 dX8_convert_146 rfl (okA.get v.1) ?_
    have v := v.2
    refine zg_iload (q := 151) C dX8_convert_149 rfl rfl ?_
    refine zg_iald (q := 152) C dX8_convert_151 rfl v.1 ?_
    have v := v.2
    refine zg_iconst (v := (-1)) (q := 153) C dX8_convert_152 (by decide) rfl ?_
    refine zg_icmp_ne (t := 160) (q := 156) C dX8_convert_153 (by decide) rfl (fun c => ?_) (fun c => ?_)
    · have v := v.1 c
      exact zg_mask [true, true, true, true, false, true, true, false, false, true] (zsX8_convert_160 C _ _ _ _ _ _ _ _ _ v)
    · have v := v.2 c
      refine zg_iconst (v := 1) (q := 157) C dX8_convert_156 (by decide) rfl ?_
      refine zg_goto (t := 161) C dX8_convert_157 (by decide) ?_
      exact zg_mask [true, true, true, true, false, true, true, false, false, true] (zsX8_convert_161 C _ _ _ _ _ _ _ _ _ _ v)
set_option maxRecDepth 100000 in
set_option maxHeartbeats 4000000 in
theorem zsX8_convert_131 {E : Wd} {X : Mx} {d : Nat} {Q : Int32 → Hp → Prop} (C : zz_C E X YX8_convert (d + 1) 0 0 (fun r h' => ∃ x : Int32, r = some (.int x) ∧ Q x h')) (a0 : Nat) (x1 : Int32) (x2 : Int32) (x3 : Int32) (x4 : Int32) (x5 : Int32) (x6 : Int32) (x7 : Int32) (h : Hp) (v : vcX8_convert_131 E d (zkX8_convert_4 E X) (zkX8_convert_54 E X) a0 x1 x2 x3 x4 x5 x6 x7 h Q) : GG E X 10 0 0 131 [some (.ref a0), some (.int x1), some (.int x2), some (.int x3), some (.int x4), some (.int x5), some (.int x6), some (.int x7), none, none] [] h := by
  refine zg_iconst (v := 1) (q := 132) C dX8_convert_131 (by decide) rfl ?_
  refine zg_goto (t := 136) C dX8_convert_132 (by decide) ?_
  exact zg_mask [true, true, true, true, true, true, true, true, false, false] (zsX8_convert_136 C _ _ _ _ _ _ _ _ _ _ v)
set_option maxRecDepth 100000 in
set_option maxHeartbeats 4000000 in
theorem zsX8_convert_135 {E : Wd} {X : Mx} {d : Nat} {Q : Int32 → Hp → Prop} (C : zz_C E X YX8_convert (d + 1) 0 0 (fun r h' => ∃ x : Int32, r = some (.int x) ∧ Q x h')) (a0 : Nat) (x1 : Int32) (x2 : Int32) (x3 : Int32) (x4 : Int32) (x5 : Int32) (x6 : Int32) (x7 : Int32) (h : Hp) (v : vcX8_convert_135 E d (zkX8_convert_4 E X) (zkX8_convert_54 E X) a0 x1 x2 x3 x4 x5 x6 x7 h Q) : GG E X 10 0 0 135 [some (.ref a0), some (.int x1), some (.int x2), some (.int x3), some (.int x4), some (.int x5), some (.int x6), some (.int x7), none, none] [] h := by
  refine zg_iconst (v := 0) (q := 136) C dX8_convert_135 (by decide) rfl ?_
  exact zg_mask [true, true, true, true, true, true, true, true, false, false] (zsX8_convert_136 C _ _ _ _ _ _ _ _ _ _ v)
set_option maxRecDepth 100000 in
set_option maxHeartbeats 4000000 in
theorem zsX8_convert_103 {E : Wd} {X : Mx} {d : Nat} {Q : Int32 → Hp → Prop} (C : zz_C E X YX8_convert (d + 1) 0 0 (fun r h' => ∃ x : Int32, r = some (.int x) ∧ Q x h')) (a0 : Nat) (x1 : Int32) (x2 : Int32) (x3 : Int32) (x4 : Int32) (x5 : Int32) (x6 : Int32) (x7 : Int32) (s0 : Int32) (h : Hp) (v : vcX8_convert_103 E d (zkX8_convert_4 E X) (zkX8_convert_54 E X) a0 x1 x2 x3 x4 x5 x6 x7 s0 h Q) : GG E X 10 0 0 103 [some (.ref a0), some (.int x1), some (.int x2), some (.int x3), some (.int x4), some (.int x5), some (.int x6), some (.int x7), none, none] [.int s0] h := by
  refine zg_istore (q := 105) C dX8_convert_103 (by decide) rfl ?_
  refine zg_iload (q := 107) C dX8_convert_105 rfl rfl ?_
  refine zg_if_ne (t := 131) (q := 110) C dX8_convert_107 (by decide) rfl (fun c => ?_) (fun c => ?_)
  · have v := v.1 c
    exact zg_mask [true, true, true, true, true, true, true, true, false, false] (zsX8_convert_131 C _ _ _ _ _ _ _ _ _ v)
  · have v := v.2 c
    refine zg_aload_n (q := 111) C dX8_convert_110 rfl rfl ?_
    refine zg_get (j := 16) (q := 114) C bX8 (by decide) lkX8_49 dX8_convert_111 rfl (okA.get v.1) ?_
    have v := v.2
    refine zg_iload (q := 116) C dX8_convert_114 rfl rfl ?_
    refine zg_zald (q := 117) C dX8_convert_116 rfl v.1 ?_
    have v := v.2
    refine zg_if_eq (t := 135) (q := 120) C dX8_convert_117 (by decide) rfl (fun c => ?_) (fun c => ?_)
    · have v := v.1 c
      exact zg_mask [true, true, true, true, true, true, true, true, false, false] (zsX8_convert_135 C _ _ _ _ _ _ _ _ _ v)
    · have v := v.2 c
      refine zg_aload_n (q := 121) C dX8_convert_120 rfl rfl ?_
      refine zg_get (j := 19) (q := 124) C bX8 (by decide) lkX8_58 dX8_convert_121 rfl (okA.get v.1) ?_
      have v := v.2
      refine zg_iload (q := 126) C dX8_convert_124 rfl rfl ?_
      refine zg_iald (q := 127) C dX8_convert_126 rfl v.1 ?_
      have v := v.2
      refine zg_iload_n (q := 128) C dX8_convert_127 rfl rfl ?_
      refine zg_icmp_ge (t := 135) (q := 131) C dX8_convert_128 (by decide) rfl (fun c => ?_) (fun c => ?_)
      · have v := v.1 c
        exact zg_mask [true, true, true, true, true, true, true, true, false, false] (zsX8_convert_135 C _ _ _ _ _ _ _ _ _ v)
      · have v := v.2 c
        exact zg_mask [true, true, true, true, true, true, true, true, false, false] (zsX8_convert_131 C _ _ _ _ _ _ _ _ _ v)
set_option maxRecDepth 100000 in
set_option maxHeartbeats 4000000 in
theorem zsX8_convert_98 {E : Wd} {X : Mx} {d : Nat} {Q : Int32 → Hp → Prop} (C : zz_C E X YX8_convert (d + 1) 0 0 (fun r h' => ∃ x : Int32, r = some (.int x) ∧ Q x h')) (a0 : Nat) (x1 : Int32) (x2 : Int32) (x3 : Int32) (x4 : Int32) (x5 : Int32) (x6 : Int32) (x7 : Int32) (h : Hp) (v : vcX8_convert_98 E d (zkX8_convert_4 E X) (zkX8_convert_54 E X) a0 x1 x2 x3 x4 x5 x6 x7 h Q) : GG E X 10 0 0 98 [some (.ref a0), some (.int x1), some (.int x2), some (.int x3), some (.int x4), some (.int x5), some (.int x6), some (.int x7), none, none] [] h := by
  refine zg_iconst (v := 1) (q := 99) C dX8_convert_98 (by decide) rfl ?_
  refine zg_goto (t := 103) C dX8_convert_99 (by decide) ?_
  exact zg_mask [true, true, true, true, true, true, true, true, false, false] (zsX8_convert_103 C _ _ _ _ _ _ _ _ _ _ v)
set_option maxRecDepth 100000 in
set_option maxHeartbeats 4000000 in
theorem zsX8_convert_54 {E : Wd} {X : Mx} {d : Nat} {Q : Int32 → Hp → Prop} (C : zz_C E X YX8_convert (d + 1) 0 0 (fun r h' => ∃ x : Int32, r = some (.int x) ∧ Q x h')) (a0 : Nat) (x1 : Int32) (x2 : Int32) (x3 : Int32) (x4 : Int32) (x5 : Int32) (x6 : Int32) (h : Hp) (v : vcX8_convert_54 E d (zkX8_convert_4 E X) (zkX8_convert_54 E X) a0 x1 x2 x3 x4 x5 x6 h Q) : GG E X 10 0 0 54 [some (.ref a0), some (.int x1), some (.int x2), some (.int x3), some (.int x4), some (.int x5), some (.int x6), none, none, none] [] h := by
  refine zg_iload (q := 56) C dX8_convert_54 rfl rfl ?_
  refine zg_aload_n (q := 57) C dX8_convert_56 rfl rfl ?_
  refine zg_get (j := 9) (q := 60) C bX8 (by decide) lkX8_27 dX8_convert_57 rfl (okA.get v.1) ?_
  have v := v.2
  refine zg_iconst (v := 0) (q := 61) C dX8_convert_60 (by decide) rfl ?_
  refine zg_iald (q := 62) C dX8_convert_61 rfl v.1 ?_
  have v := v.2
  refine zg_icmp_ge (t := 177) (q := 65) C dX8_convert_62 (by decide) rfl (fun c => ?_) (fun c => ?_)
  · have v := v.1 c
    refine zg_aload_n (q := 178) C dX8_convert_177 rfl rfl ?_
    refine zg_get (j := 17) (q := 181) C bX8 (by decide) lkX8_52 dX8_convert_178 rfl (okA.get v.1) ?_
    have v := v.2
    refine zg_iload_n (q := 182) C dX8_convert_181 rfl rfl ?_
    refine zg_iald (q := 183) C dX8_convert_182 rfl v.1 ?_
    have v := v.2
    refine zg_iconst (v := 1) (q := 184) C dX8_convert_183 (by decide) rfl ?_
    refine zg_icmp_ne (t := 195) (q := 187) C dX8_convert_184 (by decide) rfl (fun c => ?_) (fun c => ?_)
    · have v := v.1 c
      refine zg_iload (q := 197) C dX8_convert_195 rfl rfl ?_
      refine zg_if_eq (t := 216) (q := 200) C dX8_convert_197 (by decide) rfl (fun c => ?_) (fun c => ?_)
      · have v := v.1 c
        refine zg_iinc (v := 1) (q := 219) C dX8_convert_216 rfl (by decide) (by decide) rfl ?_
        refine zg_goto (t := 4) C dX8_convert_219 (by decide) ?_
        exact zg_mask [true, true, true, true, false, false, false, false, false, false] v
      · have v := v.2 c
        exact zg_mask [true, true, false, true, false, false, false, false, false, false] (zsX8_convert_200 C _ _ _ _ v)
    · have v := v.2 c
      refine zg_iload (q := 189) C dX8_convert_187 rfl rfl ?_
      refine zg_if_eq (t := 216) (q := 192) C dX8_convert_189 (by decide) rfl (fun c => ?_) (fun c => ?_)
      · have v := v.1 c
        refine zg_iinc (v := 1) (q := 219) C dX8_convert_216 rfl (by decide) (by decide) rfl ?_
        refine zg_goto (t := 4) C dX8_convert_219 (by decide) ?_
        exact zg_mask [true, true, true, true, false, false, false, false, false, false] v
      · have v := v.2 c
        refine zg_goto (t := 200) C dX8_convert_192 (by decide) ?_
        exact zg_mask [true, true, false, true, false, false, false, false, false, false] (zsX8_convert_200 C _ _ _ _ v)
  · have v := v.2 c
    refine zg_aload_n (q := 66) C dX8_convert_65 rfl rfl ?_
    refine zg_get (j := 13) (q := 69) C bX8 (by decide) lkX8_39 dX8_convert_66 rfl (okA.get v.1) ?_
    have v := v.2
    refine zg_iconst (v := 0) (q := 70) C dX8_convert_69 (by decide) rfl ?_
    refine zg_aald (q := 71) C dX8_convert_70 rfl v.1 ?_
    have v := v.2
    refine zg_iload (q := 73) C dX8_convert_71 rfl rfl ?_
    refine zg_iald (q := 74) C dX8_convert_73 rfl v.1 ?_
    have v := v.2
    refine zg_istore (q := 76) C dX8_convert_74 (by decide) rfl ?_
    refine zg_aload_n (q := 77) C dX8_convert_76 rfl rfl ?_
    refine zg_get (j := 12) (q := 80) C bX8 (by decide) lkX8_36 dX8_convert_77 rfl (okA.get v.1) ?_
    have v := v.2
    refine zg_iconst (v := 0) (q := 81) C dX8_convert_80 (by decide) rfl ?_
    refine zg_aald (q := 82) C dX8_convert_81 rfl v.1 ?_
    have v := v.2
    refine zg_iload (q := 84) C dX8_convert_82 rfl rfl ?_
    refine zg_iald (q := 85) C dX8_convert_84 rfl v.1 ?_
    have v := v.2
    refine zg_if_ge (t := 98) (q := 88) C dX8_convert_85 (by decide) rfl (fun c => ?_) (fun c => ?_)
    · have v := v.1 c
      exact zg_mask [true, true, true, true, true, true, true, true, false, false] (zsX8_convert_98 C _ _ _ _ _ _ _ _ _ v)
    · have v := v.2 c
      refine zg_aload_n (q := 89) C dX8_convert_88 rfl rfl ?_
      refine zg_get (j := 18) (q := 92) C bX8 (by decide) lkX8_55 dX8_convert_89 rfl (okA.get v.1) ?_
      have v := v.2
      refine zg_iload (q := 94) C dX8_convert_92 rfl rfl ?_
      refine zg_iald (q := 95) C dX8_convert_94 rfl v.1 ?_
      have v := v.2
      refine zg_if_ne (t := 102) (q := 98) C dX8_convert_95 (by decide) rfl (fun c => ?_) (fun c => ?_)
      · have v := v.1 c
        refine zg_iconst (v := 0) (q := 103) C dX8_convert_102 (by decide) rfl ?_
        exact zg_mask [true, true, true, true, true, true, true, true, false, false] (zsX8_convert_103 C _ _ _ _ _ _ _ _ _ _ v)
      · have v := v.2 c
        exact zg_mask [true, true, true, true, true, true, true, true, false, false] (zsX8_convert_98 C _ _ _ _ _ _ _ _ _ v)
theorem rnX8_convert {E : Wd} {d : Nat} {a0 : Nat} {x1 : Int32} {h : Hp} {Q : Int32 → Hp → Prop} (k : ∀ (K4 : Nat → Int32 → Int32 → Int32 → Hp → Prop) (K54 : Nat → Int32 → Int32 → Int32 → Int32 → Int32 → Int32 → Hp → Prop),(∀ (a0 : Nat) (x1 : Int32) (x2 : Int32) (x3 : Int32) h, vcX8_convert_4 E d K4 K54 a0 x1 x2 x3 h Q → K4 a0 x1 x2 x3 h) → (∀ (a0 : Nat) (x1 : Int32) (x2 : Int32) (x3 : Int32) (x4 : Int32) (x5 : Int32) (x6 : Int32) h, vcX8_convert_54 E d K4 K54 a0 x1 x2 x3 x4 x5 x6 h Q → K54 a0 x1 x2 x3 x4 x5 x6 h) → vcX8_convert_0 E d K4 K54 a0 x1 h Q) : OkI E YX8_convert (d + 1) [.ref a0, .int x1] h Q :=
  zz_body2 (r := 8) mX8_convert (zc_a (zc_i zc_n)) (Nat.le_of_ble_eq_true rfl) (fun X C => zsX8_convert_0 C a0 x1 h (k (zkX8_convert_4 E X) (zkX8_convert_54 E X) (fun a0 x1 x2 x3 h v => zsX8_convert_4 C a0 x1 x2 x3 h v) (fun a0 x1 x2 x3 x4 x5 x6 h v => zsX8_convert_54 C a0 x1 x2 x3 x4 x5 x6 h v)))
def vcX8_verdict_31 (E : Wd) (d : Nat) (a0 : Nat) (x1 : Int32) (s0 : Int32) (h : Hp) (Q : Int32 → Hp → Prop) : Prop :=
  (s0 = (0 : Int32) → okA h a0 8 17 ∧ okR E h (fA h a0 17) 0 x1 ∧ Q (gA h (fA h a0 17) x1) h) ∧ (¬ s0 = (0 : Int32) → Q 0 h)
def vcX8_verdict_30 (E : Wd) (d : Nat) (a0 : Nat) (x1 : Int32) (h : Hp) (Q : Int32 → Hp → Prop) : Prop :=
  vcX8_verdict_31 E d a0 x1 0 h Q
def vcX8_verdict_0 (E : Wd) (d : Nat) (a0 : Nat) (x1 : Int32) (h : Hp) (Q : Int32 → Hp → Prop) : Prop :=
  okA h a0 8 4 ∧ okR E h (fA h a0 4) 0 6 ∧ ((gA h (fA h a0 4) 6) < (0 : Int32) → vcX8_verdict_30 E d a0 x1 h Q) ∧ (¬ (gA h (fA h a0 4) 6) < (0 : Int32) → okA h a0 8 19 ∧ okR E h (fA h a0 19) 0 x1 ∧ okA h a0 8 4 ∧ okR E h (fA h a0 4) 0 6 ∧ ((gA h (fA h a0 19) x1) ≤ (gA h (fA h a0 4) 6) → vcX8_verdict_30 E d a0 x1 h Q) ∧ (¬ (gA h (fA h a0 19) x1) ≤ (gA h (fA h a0 4) 6) → vcX8_verdict_31 E d a0 x1 1 h Q))
set_option maxRecDepth 100000 in
set_option maxHeartbeats 4000000 in
theorem zsX8_verdict_31 {E : Wd} {X : Mx} {d : Nat} {Q : Int32 → Hp → Prop} (C : zz_C E X YX8_verdict d 0 0 (fun r h' => ∃ x : Int32, r = some (.int x) ∧ Q x h')) (a0 : Nat) (x1 : Int32) (s0 : Int32) (h : Hp) (v : vcX8_verdict_31 E d a0 x1 s0 h Q) : GG E X 3 0 0 31 [some (.ref a0), some (.int x1), none] [.int s0] h := by
  refine zg_istore_n (q := 32) C dX8_verdict_31 (by decide) rfl ?_
  refine zg_iload_n (q := 33) C dX8_verdict_32 rfl rfl ?_
  refine zg_if_eq (t := 40) (q := 36) C dX8_verdict_33 (by decide) rfl (fun c => ?_) (fun c => ?_)
  · have v := v.1 c
    refine zg_aload_n (q := 41) C dX8_verdict_40 rfl rfl ?_
    refine zg_get (j := 17) (q := 44) C bX8 (by decide) lkX8_52 dX8_verdict_41 rfl (okA.get v.1) ?_
    have v := v.2
    refine zg_iload_n (q := 45) C dX8_verdict_44 rfl rfl ?_
    refine zg_iald (q := 46) C dX8_verdict_45 rfl v.1 ?_
    have v := v.2
    exact zg_iret C rfl dX8_verdict_46 ⟨Nat.le_refl _, Nat.le_refl _⟩ ⟨_, rfl, v⟩
  · have v := v.2 c
    refine zg_iconst (v := 0) (q := 37) C dX8_verdict_36 (by decide) rfl ?_
    refine zg_goto (t := 46) C dX8_verdict_37 (by decide) ?_
    exact zg_iret C rfl dX8_verdict_46 ⟨Nat.le_refl _, Nat.le_refl _⟩ ⟨_, rfl, v⟩
set_option maxRecDepth 100000 in
set_option maxHeartbeats 4000000 in
theorem zsX8_verdict_30 {E : Wd} {X : Mx} {d : Nat} {Q : Int32 → Hp → Prop} (C : zz_C E X YX8_verdict d 0 0 (fun r h' => ∃ x : Int32, r = some (.int x) ∧ Q x h')) (a0 : Nat) (x1 : Int32) (h : Hp) (v : vcX8_verdict_30 E d a0 x1 h Q) : GG E X 3 0 0 30 [some (.ref a0), some (.int x1), none] [] h := by
  refine zg_iconst (v := 0) (q := 31) C dX8_verdict_30 (by decide) rfl ?_
  exact zg_mask [true, true, false] (zsX8_verdict_31 C _ _ _ _ v)
set_option maxRecDepth 100000 in
set_option maxHeartbeats 4000000 in
theorem zsX8_verdict_0 {E : Wd} {X : Mx} {d : Nat} {Q : Int32 → Hp → Prop} (C : zz_C E X YX8_verdict d 0 0 (fun r h' => ∃ x : Int32, r = some (.int x) ∧ Q x h')) (a0 : Nat) (x1 : Int32) (h : Hp) (v : vcX8_verdict_0 E d a0 x1 h Q) : GG E X 3 0 0 0 [some (.ref a0), some (.int x1), none] [] h := by
  refine zg_aload_n (q := 1) C dX8_verdict_0 rfl rfl ?_
  refine zg_get (j := 4) (q := 4) C bX8 (by decide) lkX8_13 dX8_verdict_1 rfl (okA.get v.1) ?_
  have v := v.2
  refine zg_bipush (v := 6) (q := 6) C dX8_verdict_4 (by decide) rfl ?_
  refine zg_iald (q := 7) C dX8_verdict_6 rfl v.1 ?_
  have v := v.2
  refine zg_if_lt (t := 30) (q := 10) C dX8_verdict_7 (by decide) rfl (fun c => ?_) (fun c => ?_)
  · have v := v.1 c
    exact zg_mask [true, true, false] (zsX8_verdict_30 C _ _ _ v)
  · have v := v.2 c
    refine zg_aload_n (q := 11) C dX8_verdict_10 rfl rfl ?_
    refine zg_get (j := 19) (q := 14) C bX8 (by decide) lkX8_58 dX8_verdict_11 rfl (okA.get v.1) ?_
    have v := v.2
    refine zg_iload_n (q := 15) C dX8_verdict_14 rfl rfl ?_
    refine zg_iald (q := 16) C dX8_verdict_15 rfl v.1 ?_
    have v := v.2
    refine zg_aload_n (q := 17) C dX8_verdict_16 rfl rfl ?_
    refine zg_get (j := 4) (q := 20) C bX8 (by decide) lkX8_13 dX8_verdict_17 rfl (okA.get v.1) ?_
    have v := v.2
    refine zg_bipush (v := 6) (q := 22) C dX8_verdict_20 (by decide) rfl ?_
    refine zg_iald (q := 23) C dX8_verdict_22 rfl v.1 ?_
    have v := v.2
    refine zg_icmp_le (t := 30) (q := 26) C dX8_verdict_23 (by decide) rfl (fun c => ?_) (fun c => ?_)
    · have v := v.1 c
      exact zg_mask [true, true, false] (zsX8_verdict_30 C _ _ _ v)
    · have v := v.2 c
      refine zg_iconst (v := 1) (q := 27) C dX8_verdict_26 (by decide) rfl ?_
      refine zg_goto (t := 31) C dX8_verdict_27 (by decide) ?_
      exact zg_mask [true, true, false] (zsX8_verdict_31 C _ _ _ _ v)
theorem rnX8_verdict {E : Wd} {d : Nat} {a0 : Nat} {x1 : Int32} {h : Hp} {Q : Int32 → Hp → Prop} (k : vcX8_verdict_0 E d a0 x1 h Q) : OkI E YX8_verdict d [.ref a0, .int x1] h Q :=
  zz_body2 (r := 1) mX8_verdict (zc_a (zc_i zc_n)) (Nat.le_of_ble_eq_true rfl) (fun X C => zsX8_verdict_0 C a0 x1 h k)
def vcX8_hasPawns_0 (E : Wd) (d : Nat) (K4 : Nat → Int32 → Int32 → Hp → Prop) (a0 : Nat) (h : Hp) (Q : Int32 → Hp → Prop) : Prop :=
  K4 a0 0 0 h
def vcX8_hasPawns_4 (E : Wd) (d : Nat) (K4 : Nat → Int32 → Int32 → Hp → Prop) (a0 : Nat) (x1 : Int32) (x2 : Int32) (h : Hp) (Q : Int32 → Hp → Prop) : Prop :=
  okA h a0 8 4 ∧ okR E h (fA h a0 4) 0 2 ∧ ((gA h (fA h a0 4) 2) ≤ x2 → mB x1 ∧ Q x1 h) ∧ (¬ (gA h (fA h a0 4) 2) ≤ x2 → okA h a0 8 4 ∧ okR E h (fA h a0 4) 0 ((7 : Int32) + x2) ∧ (¬ (gA h (fA h a0 4) ((7 : Int32) + x2)) = (9 : Int32) → K4 a0 (x1 ||| (0 : Int32)) (x2 + 1) h) ∧ ((gA h (fA h a0 4) ((7 : Int32) + x2)) = (9 : Int32) → K4 a0 (x1 ||| (1 : Int32)) (x2 + 1) h))
def zkX8_hasPawns_4 (E : Wd) (X : Mx) : Nat → Int32 → Int32 → Hp → Prop := fun a0 x1 x2 h => GG E X 3 0 0 4 [some (.ref a0), some (.int x1), some (.int x2)] [] h
set_option maxRecDepth 100000 in
set_option maxHeartbeats 4000000 in
theorem zsX8_hasPawns_0 {E : Wd} {X : Mx} {d : Nat} {Q : Int32 → Hp → Prop} (C : zz_C E X YX8_hasPawns d 0 0 (fun r h' => ∃ x : Int32, r = some (.int x) ∧ Q x h')) (a0 : Nat) (h : Hp) (v : vcX8_hasPawns_0 E d (zkX8_hasPawns_4 E X) a0 h Q) : GG E X 3 0 0 0 [some (.ref a0), none, none] [] h := by
  refine zg_iconst (v := 0) (q := 1) C dX8_hasPawns_0 (by decide) rfl ?_
  refine zg_istore_n (q := 2) C dX8_hasPawns_1 (by decide) rfl ?_
  refine zg_iconst (v := 0) (q := 3) C dX8_hasPawns_2 (by decide) rfl ?_
  refine zg_istore_n (q := 4) C dX8_hasPawns_3 (by decide) rfl ?_
  exact zg_mask [true, true, true] v
set_option maxRecDepth 100000 in
set_option maxHeartbeats 4000000 in
theorem zsX8_hasPawns_4 {E : Wd} {X : Mx} {d : Nat} {Q : Int32 → Hp → Prop} (C : zz_C E X YX8_hasPawns d 0 0 (fun r h' => ∃ x : Int32, r = some (.int x) ∧ Q x h')) (a0 : Nat) (x1 : Int32) (x2 : Int32) (h : Hp) (v : vcX8_hasPawns_4 E d (zkX8_hasPawns_4 E X) a0 x1 x2 h Q) : GG E X 3 0 0 4 [some (.ref a0), some (.int x1), some (.int x2)] [] h := by
  refine zg_iload_n (q := 5) C dX8_hasPawns_4 rfl rfl ?_
  refine zg_aload_n (q := 6) C dX8_hasPawns_5 rfl rfl ?_
  refine zg_get (j := 4) (q := 9) C bX8 (by decide) lkX8_13 dX8_hasPawns_6 rfl (okA.get v.1) ?_
  have v := v.2
  refine zg_iconst (v := 2) (q := 10) C dX8_hasPawns_9 (by decide) rfl ?_
  refine zg_iald (q := 11) C dX8_hasPawns_10 rfl v.1 ?_
  have v := v.2
  refine zg_icmp_ge (t := 42) (q := 14) C dX8_hasPawns_11 (by decide) rfl (fun c => ?_) (fun c => ?_)
  · have v := v.1 c
    refine zg_iload_n (q := 43) C dX8_hasPawns_42 rfl rfl ?_
    exact zg_zret C rfl dX8_hasPawns_43 ⟨Nat.le_refl _, Nat.le_refl _⟩ v.1 ⟨_, rfl, v.2⟩
  · have v := v.2 c
    refine zg_iload_n (q := 15) C dX8_hasPawns_14 rfl rfl ?_
    refine zg_aload_n (q := 16) C dX8_hasPawns_15 rfl rfl ?_
    refine zg_get (j := 4) (q := 19) C bX8 (by decide) lkX8_13 dX8_hasPawns_16 rfl (okA.get v.1) ?_
    have v := v.2
    refine zg_bipush (v := 7) (q := 21) C dX8_hasPawns_19 (by decide) rfl ?_
    refine zg_iload_n (q := 22) C dX8_hasPawns_21 rfl rfl ?_
    refine zg_iadd (q := 23) C dX8_hasPawns_22 rfl ?_
    refine zg_iald (q := 24) C dX8_hasPawns_23 rfl v.1 ?_
    have v := v.2
    refine zg_bipush (v := 9) (q := 26) C dX8_hasPawns_24 (by decide) rfl ?_
    refine zg_icmp_ne (t := 33) (q := 29) C dX8_hasPawns_26 (by decide) rfl (fun c => ?_) (fun c => ?_)
    · have v := v.1 c
      refine zg_iconst (v := 0) (q := 34) C dX8_hasPawns_33 (by decide) rfl ?_
      refine zg_ior (q := 35) C dX8_hasPawns_34 rfl ?_
      refine zg_istore_n (q := 36) C dX8_hasPawns_35 (by decide) rfl ?_
      refine zg_iinc (v := 1) (q := 39) C dX8_hasPawns_36 rfl (by decide) (by decide) rfl ?_
      refine zg_goto (t := 4) C dX8_hasPawns_39 (by decide) ?_
      exact zg_mask [true, true, true] v
    · have v := v.2 c
      refine zg_iconst (v := 1) (q := 30) C dX8_hasPawns_29 (by decide) rfl ?_
      refine zg_goto (t := 34) C dX8_hasPawns_30 (by decide) ?_
      refine zg_ior (q := 35) C dX8_hasPawns_34 rfl ?_
      refine zg_istore_n (q := 36) C dX8_hasPawns_35 (by decide) rfl ?_
      refine zg_iinc (v := 1) (q := 39) C dX8_hasPawns_36 rfl (by decide) (by decide) rfl ?_
      refine zg_goto (t := 4) C dX8_hasPawns_39 (by decide) ?_
      exact zg_mask [true, true, true] v
theorem rnX8_hasPawns {E : Wd} {d : Nat} {a0 : Nat} {h : Hp} {Q : Int32 → Hp → Prop} (k : ∀ (K4 : Nat → Int32 → Int32 → Hp → Prop),(∀ (a0 : Nat) (x1 : Int32) (x2 : Int32) h, vcX8_hasPawns_4 E d K4 a0 x1 x2 h Q → K4 a0 x1 x2 h) → vcX8_hasPawns_0 E d K4 a0 h Q) : OkI E YX8_hasPawns d [.ref a0] h Q :=
  zz_body2 (r := 2) mX8_hasPawns (zc_a zc_n) (Nat.le_of_ble_eq_true rfl) (fun X C => zsX8_hasPawns_0 C a0 h (k (zkX8_hasPawns_4 E X) (fun a0 x1 x2 h v => zsX8_hasPawns_4 C a0 x1 x2 h v)))
def vcX8_turned_76 (E : Wd) (d : Nat) (a0 : Nat) (x1 : Int32) (x3 : Int32) (s0 : Int32) (h : Hp) (Q : Int32 → Hp → Prop) : Prop :=
  OkI E YX8_has d [.int x1, .int 2] h (fun r2 h1 => (r2 = (0 : Int32) → okA h1 a0 8 4 ∧ okR E h1 (fA h1 a0 4) 0 0 ∧ Q ((s0 * (gA h1 (fA h1 a0 4) 0)) + x3) h1) ∧ (¬ r2 = (0 : Int32) → okA h1 a0 8 4 ∧ okR E h1 (fA h1 a0 4) 0 0 ∧ Q ((x3 * (gA h1 (fA h1 a0 4) 0)) + s0) h1))
def vcX8_turned_51 (E : Wd) (d : Nat) (a0 : Nat) (x1 : Int32) (x4 : Int32) (s0 : Int32) (h : Hp) (Q : Int32 → Hp → Prop) : Prop :=
  OkI E YX8_has d [.int x1, .int 1] h (fun r2 h1 => (r2 = (0 : Int32) → vcX8_turned_76 E d a0 x1 s0 x4 h1 Q) ∧ (¬ r2 = (0 : Int32) → okA h1 a0 8 4 ∧ okR E h1 (fA h1 a0 4) 0 1 ∧ vcX8_turned_76 E d a0 x1 s0 (((gA h1 (fA h1 a0 4) 1) - (1 : Int32)) - x4) h1 Q))
def vcX8_turned_0 (E : Wd) (d : Nat) (a0 : Nat) (x1 : Int32) (x2 : Int32) (h : Hp) (Q : Int32 → Hp → Prop) : Prop :=
  isO h a0 8 ∧ OkI E YX8_squares d [.ref a0] h (fun r2 h1 => (¬ x2 = r2 → okA h1 a0 8 4 ∧ okR E h1 (fA h1 a0 4) 0 0 ∧ (¬ (gA h1 (fA h1 a0 4) 0) = (0 : Int32)) ∧ okA h1 a0 8 4 ∧ okR E h1 (fA h1 a0 4) 0 0 ∧ (¬ (gA h1 (fA h1 a0 4) 0) = (0 : Int32)) ∧ OkI E YX8_has d [.int x1, .int 0] h1 (fun r4 h3 => (r4 = (0 : Int32) → vcX8_turned_51 E d a0 x1 (x2 / (gA h1 (fA h1 a0 4) 0)) (x2 - x2 / (gA h1 (fA h1 a0 4) 0) * (gA h1 (fA h1 a0 4) 0)) h3 Q) ∧ (¬ r4 = (0 : Int32) → okA h3 a0 8 4 ∧ okR E h3 (fA h3 a0 4) 0 0 ∧ vcX8_turned_51 E d a0 x1 (x2 / (gA h1 (fA h1 a0 4) 0)) (((gA h3 (fA h3 a0 4) 0) - (1 : Int32)) - (x2 - x2 / (gA h1 (fA h1 a0 4) 0) * (gA h1 (fA h1 a0 4) 0))) h3 Q))) ∧ (x2 = r2 → Q x2 h1))
set_option maxRecDepth 100000 in
set_option maxHeartbeats 4000000 in
theorem zsX8_turned_76 {E : Wd} {X : Mx} {d : Nat} {Q : Int32 → Hp → Prop} (C : zz_C E X YX8_turned (d + 1) 0 0 (fun r h' => ∃ x : Int32, r = some (.int x) ∧ Q x h')) (a0 : Nat) (x1 : Int32) (x3 : Int32) (s0 : Int32) (h : Hp) (v : vcX8_turned_76 E d a0 x1 x3 s0 h Q) : GG E X 5 0 0 76 [some (.ref a0), some (.int x1), none, some (.int x3), none] [.int s0] h := by
  refine zg_istore (q := 78) C dX8_turned_76 (by decide) rfl ?_
  refine zg_iload_n (q := 79) C dX8_turned_78 rfl rfl ?_
  refine zg_iconst (v := 2) (q := 80) C dX8_turned_79 (by decide) rfl ?_
  refine zg_cS2I (q := 83) C mX8_has tX8_has lmX8_164 rfl (Nat.le_of_ble_eq_true rfl) ⟨Nat.le_refl _, Nat.le_refl _⟩ dX8_turned_80 rfl v (fun r2 h1 v => ?_)
  refine zg_if_eq (t := 100) (q := 86) C dX8_turned_83 (by decide) rfl (fun c => ?_) (fun c => ?_)
  · have v := v.1 c
    refine zg_iload (q := 102) C dX8_turned_100 rfl rfl ?_
    refine zg_aload_n (q := 103) C dX8_turned_102 rfl rfl ?_
    refine zg_get (j := 4) (q := 106) C bX8 (by decide) lkX8_13 dX8_turned_103 rfl (okA.get v.1) ?_
    have v := v.2
    refine zg_iconst (v := 0) (q := 107) C dX8_turned_106 (by decide) rfl ?_
    refine zg_iald (q := 108) C dX8_turned_107 rfl v.1 ?_
    have v := v.2
    refine zg_imul (q := 109) C dX8_turned_108 rfl ?_
    refine zg_iload_n (q := 110) C dX8_turned_109 rfl rfl ?_
    refine zg_iadd (q := 111) C dX8_turned_110 rfl ?_
    exact zg_iret C rfl dX8_turned_111 ⟨Nat.le_refl _, Nat.le_refl _⟩ ⟨_, rfl, v⟩
  · have v := v.2 c
    refine zg_iload_n (q := 87) C dX8_turned_86 rfl rfl ?_
    refine zg_aload_n (q := 88) C dX8_turned_87 rfl rfl ?_
    refine zg_get (j := 4) (q := 91) C bX8 (by decide) lkX8_13 dX8_turned_88 rfl (okA.get v.1) ?_
    have v := v.2
    refine zg_iconst (v := 0) (q := 92) C dX8_turned_91 (by decide) rfl ?_
    refine zg_iald (q := 93) C dX8_turned_92 rfl v.1 ?_
    have v := v.2
    refine zg_imul (q := 94) C dX8_turned_93 rfl ?_
    refine zg_iload (q := 96) C dX8_turned_94 rfl rfl ?_
    refine zg_iadd (q := 97) C dX8_turned_96 rfl ?_
    refine zg_goto (t := 111) C dX8_turned_97 (by decide) ?_
    exact zg_iret C rfl dX8_turned_111 ⟨Nat.le_refl _, Nat.le_refl _⟩ ⟨_, rfl, v⟩
set_option maxRecDepth 100000 in
set_option maxHeartbeats 4000000 in
theorem zsX8_turned_51 {E : Wd} {X : Mx} {d : Nat} {Q : Int32 → Hp → Prop} (C : zz_C E X YX8_turned (d + 1) 0 0 (fun r h' => ∃ x : Int32, r = some (.int x) ∧ Q x h')) (a0 : Nat) (x1 : Int32) (x4 : Int32) (s0 : Int32) (h : Hp) (v : vcX8_turned_51 E d a0 x1 x4 s0 h Q) : GG E X 5 0 0 51 [some (.ref a0), some (.int x1), none, none, some (.int x4)] [.int s0] h := by
  refine zg_istore_n (q := 52) C dX8_turned_51 (by decide) rfl ?_
  refine zg_iload_n (q := 53) C dX8_turned_52 rfl rfl ?_
  refine zg_iconst (v := 1) (q := 54) C dX8_turned_53 (by decide) rfl ?_
  refine zg_cS2I (q := 57) C mX8_has tX8_has lmX8_164 rfl (Nat.le_of_ble_eq_true rfl) ⟨Nat.le_refl _, Nat.le_refl _⟩ dX8_turned_54 rfl v (fun r2 h1 v => ?_)
  refine zg_if_eq (t := 74) (q := 60) C dX8_turned_57 (by decide) rfl (fun c => ?_) (fun c => ?_)
  · have v := v.1 c
    refine zg_iload (q := 76) C dX8_turned_74 rfl rfl ?_
    exact zg_mask [true, true, false, true, false] (zsX8_turned_76 C _ _ _ _ _ v)
  · have v := v.2 c
    refine zg_aload_n (q := 61) C dX8_turned_60 rfl rfl ?_
    refine zg_get (j := 4) (q := 64) C bX8 (by decide) lkX8_13 dX8_turned_61 rfl (okA.get v.1) ?_
    have v := v.2
    refine zg_iconst (v := 1) (q := 65) C dX8_turned_64 (by decide) rfl ?_
    refine zg_iald (q := 66) C dX8_turned_65 rfl v.1 ?_
    have v := v.2
    refine zg_iconst (v := 1) (q := 67) C dX8_turned_66 (by decide) rfl ?_
    refine zg_isub (q := 68) C dX8_turned_67 rfl ?_
    refine zg_iload (q := 70) C dX8_turned_68 rfl rfl ?_
    refine zg_isub (q := 71) C dX8_turned_70 rfl ?_
    refine zg_goto (t := 76) C dX8_turned_71 (by decide) ?_
    exact zg_mask [true, true, false, true, false] (zsX8_turned_76 C _ _ _ _ _ v)
set_option maxRecDepth 100000 in
set_option maxHeartbeats 4000000 in
theorem zsX8_turned_0 {E : Wd} {X : Mx} {d : Nat} {Q : Int32 → Hp → Prop} (C : zz_C E X YX8_turned (d + 1) 0 0 (fun r h' => ∃ x : Int32, r = some (.int x) ∧ Q x h')) (a0 : Nat) (x1 : Int32) (x2 : Int32) (h : Hp) (v : vcX8_turned_0 E d a0 x1 x2 h Q) : GG E X 5 0 0 0 [some (.ref a0), some (.int x1), some (.int x2), none, none] [] h := by
  refine zg_iload_n (q := 1) C dX8_turned_0 rfl rfl ?_
  refine zg_aload_n (q := 2) C dX8_turned_1 rfl rfl ?_
  refine zg_cV0I (q := 5) C mX8_squares vX8_squares lmX8_152 rfl (bX8).1 v.1 (Nat.le_of_ble_eq_true rfl) ⟨Nat.le_refl _, Nat.le_refl _⟩ dX8_turned_2 rfl v.2 (fun r2 h1 v => ?_)
  refine zg_icmp_ne (t := 10) (q := 8) C dX8_turned_5 (by decide) rfl (fun c => ?_) (fun c => ?_)
  · have v := v.1 c
    refine zg_iload_n (q := 11) C dX8_turned_10 rfl rfl ?_
    refine zg_aload_n (q := 12) C dX8_turned_11 rfl rfl ?_
    refine zg_get (j := 4) (q := 15) C bX8 (by decide) lkX8_13 dX8_turned_12 rfl (okA.get v.1) ?_
    have v := v.2
    refine zg_iconst (v := 0) (q := 16) C dX8_turned_15 (by decide) rfl ?_
    refine zg_iald (q := 17) C dX8_turned_16 rfl v.1 ?_
    have v := v.2
    refine zg_irem (q := 18) C dX8_turned_17 v.1 rfl ?_
    have v := v.2
    refine zg_istore_n (q := 19) C dX8_turned_18 (by decide) rfl ?_
    refine zg_iload_n (q := 20) C dX8_turned_19 rfl rfl ?_
    refine zg_aload_n (q := 21) C dX8_turned_20 rfl rfl ?_
    refine zg_get (j := 4) (q := 24) C bX8 (by decide) lkX8_13 dX8_turned_21 rfl (okA.get v.1) ?_
    have v := v.2
    refine zg_iconst (v := 0) (q := 25) C dX8_turned_24 (by decide) rfl ?_
    refine zg_iald (q := 26) C dX8_turned_25 rfl v.1 ?_
    have v := v.2
    refine zg_idiv (q := 27) C dX8_turned_26 v.1 rfl ?_
    have v := v.2
    refine zg_istore (q := 29) C dX8_turned_27 (by decide) rfl ?_
    refine zg_iload_n (q := 30) C dX8_turned_29 rfl rfl ?_
    refine zg_iconst (v := 0) (q := 31) C dX8_turned_30 (by decide) rfl ?_
    refine zg_cS2I (q := 34) C mX8_has tX8_has lmX8_164 rfl (Nat.le_of_ble_eq_true rfl) ⟨Nat.le_refl _, Nat.le_refl _⟩ dX8_turned_31 rfl v (fun r4 h3 v => ?_)
    refine zg_if_eq (t := 50) (q := 37) C dX8_turned_34 (by decide) rfl (fun c => ?_) (fun c => ?_)
    · have v := v.1 c
      refine zg_iload_n (q := 51) C dX8_turned_50 rfl rfl ?_
      exact zg_mask [true, true, false, false, true] (zsX8_turned_51 C _ _ _ _ _ v)
    · have v := v.2 c
      refine zg_aload_n (q := 38) C dX8_turned_37 rfl rfl ?_
      refine zg_get (j := 4) (q := 41) C bX8 (by decide) lkX8_13 dX8_turned_38 rfl (okA.get v.1) ?_
      have v := v.2
      refine zg_iconst (v := 0) (q := 42) C dX8_turned_41 (by decide) rfl ?_
      refine zg_iald (q := 43) C dX8_turned_42 rfl v.1 ?_
      have v := v.2
      refine zg_iconst (v := 1) (q := 44) C dX8_turned_43 (by decide) rfl ?_
      refine zg_isub (q := 45) C dX8_turned_44 rfl ?_
      refine zg_iload_n (q := 46) C dX8_turned_45 rfl rfl ?_
      refine zg_isub (q := 47) C dX8_turned_46 rfl ?_
      refine zg_goto (t := 51) C dX8_turned_47 (by decide) ?_
      exact zg_mask [true, true, false, false, true] (zsX8_turned_51 C _ _ _ _ _ v)
  · have v := v.2 c
    refine zg_iload_n (q := 9) C dX8_turned_8 rfl rfl ?_
    exact zg_iret C rfl dX8_turned_9 ⟨Nat.le_refl _, Nat.le_refl _⟩ ⟨_, rfl, v⟩
theorem rnX8_turned {E : Wd} {d : Nat} {a0 : Nat} {x1 : Int32} {x2 : Int32} {h : Hp} {Q : Int32 → Hp → Prop} (k : vcX8_turned_0 E d a0 x1 x2 h Q) : OkI E YX8_turned (d + 1) [.ref a0, .int x1, .int x2] h Q :=
  zz_body2 (r := 2) mX8_turned (zc_a (zc_i (zc_i zc_n))) (Nat.le_of_ble_eq_true rfl) (fun X C => zsX8_turned_0 C a0 x1 x2 h k)
def vcX8_isSymmetry_12 (E : Wd) (d : Nat) (K41 : Nat → Int32 → Int32 → Int32 → Hp → Prop) (a0 : Nat) (x1 : Int32) (h : Hp) (Q : Int32 → Hp → Prop) : Prop :=
  OkI E YX8_has d [.int x1, .int 2] h (fun r2 h1 => (r2 = (0 : Int32) → K41 a0 x1 1 0 h1) ∧ (¬ r2 = (0 : Int32) → okA h1 a0 8 4 ∧ okR E h1 (fA h1 a0 4) 0 0 ∧ okA h1 a0 8 4 ∧ okR E h1 (fA h1 a0 4) 0 1 ∧ ((gA h1 (fA h1 a0 4) 0) = (gA h1 (fA h1 a0 4) 1) → K41 a0 x1 1 0 h1) ∧ (¬ (gA h1 (fA h1 a0 4) 0) = (gA h1 (fA h1 a0 4) 1) → mB 0 ∧ Q 0 h1)))
def vcX8_isSymmetry_0 (E : Wd) (d : Nat) (K41 : Nat → Int32 → Int32 → Int32 → Hp → Prop) (a0 : Nat) (x1 : Int32) (h : Hp) (Q : Int32 → Hp → Prop) : Prop :=
  isO h a0 8 ∧ OkI E YX8_hasPawns d [.ref a0] h (fun r2 h1 => (r2 = (0 : Int32) → vcX8_isSymmetry_12 E d K41 a0 x1 h1 Q) ∧ (¬ r2 = (0 : Int32) → ((1 : Int32) < x1 → mB 0 ∧ Q 0 h1) ∧ (¬ (1 : Int32) < x1 → vcX8_isSymmetry_12 E d K41 a0 x1 h1 Q)))
def vcX8_isSymmetry_41 (E : Wd) (d : Nat) (K41 : Nat → Int32 → Int32 → Int32 → Hp → Prop) (a0 : Nat) (x1 : Int32) (x2 : Int32) (x3 : Int32) (h : Hp) (Q : Int32 → Hp → Prop) : Prop :=
  isO h a0 8 ∧ OkI E YX8_squares d [.ref a0] h (fun r2 h1 => (r2 ≤ x3 → mB x2 ∧ Q x2 h1) ∧ (¬ r2 ≤ x3 → okA h1 a0 8 4 ∧ okR E h1 (fA h1 a0 4) 0 4 ∧ OkI E YX8_has d [.int (gA h1 (fA h1 a0 4) 4), .int x3] h1 (fun r4 h3 => okA h3 a0 8 4 ∧ okR E h3 (fA h3 a0 4) 0 4 ∧ isO h3 a0 8 ∧ OkI E YX8_turned d [.ref a0, .int x1, .int x3] h3 (fun r6 h5 => OkI E YX8_has d [.int (gA h3 (fA h3 a0 4) 4), .int r6] h5 (fun r8 h7 => (¬ r4 = r8 → K41 a0 x1 (x2 &&& (0 : Int32)) (x3 + 1) h7) ∧ (r4 = r8 → K41 a0 x1 (x2 &&& (1 : Int32)) (x3 + 1) h7))))))
def zkX8_isSymmetry_41 (E : Wd) (X : Mx) : Nat → Int32 → Int32 → Int32 → Hp → Prop := fun a0 x1 x2 x3 h => GG E X 4 0 0 41 [some (.ref a0), some (.int x1), some (.int x2), some (.int x3)] [] h
set_option maxRecDepth 100000 in
set_option maxHeartbeats 4000000 in
theorem zsX8_isSymmetry_12 {E : Wd} {X : Mx} {d : Nat} {Q : Int32 → Hp → Prop} (C : zz_C E X YX8_isSymmetry (d + 1) 0 0 (fun r h' => ∃ x : Int32, r = some (.int x) ∧ Q x h')) (a0 : Nat) (x1 : Int32) (h : Hp) (v : vcX8_isSymmetry_12 E d (zkX8_isSymmetry_41 E X) a0 x1 h Q) : GG E X 4 0 0 12 [some (.ref a0), some (.int x1), none, none] [] h := by
  refine zg_iload_n (q := 13) C dX8_isSymmetry_12 rfl rfl ?_
  refine zg_iconst (v := 2) (q := 14) C dX8_isSymmetry_13 (by decide) rfl ?_
  refine zg_cS2I (q := 17) C mX8_has tX8_has lmX8_164 rfl (Nat.le_of_ble_eq_true rfl) ⟨Nat.le_refl _, Nat.le_refl _⟩ dX8_isSymmetry_14 rfl v (fun r2 h1 v => ?_)
  refine zg_if_eq (t := 37) (q := 20) C dX8_isSymmetry_17 (by decide) rfl (fun c => ?_) (fun c => ?_)
  · have v := v.1 c
    refine zg_iconst (v := 1) (q := 38) C dX8_isSymmetry_37 (by decide) rfl ?_
    refine zg_istore_n (q := 39) C dX8_isSymmetry_38 (by decide) rfl ?_
    refine zg_iconst (v := 0) (q := 40) C dX8_isSymmetry_39 (by decide) rfl ?_
    refine zg_istore_n (q := 41) C dX8_isSymmetry_40 (by decide) rfl ?_
    exact zg_mask [true, true, true, true] v
  · have v := v.2 c
    refine zg_aload_n (q := 21) C dX8_isSymmetry_20 rfl rfl ?_
    refine zg_get (j := 4) (q := 24) C bX8 (by decide) lkX8_13 dX8_isSymmetry_21 rfl (okA.get v.1) ?_
    have v := v.2
    refine zg_iconst (v := 0) (q := 25) C dX8_isSymmetry_24 (by decide) rfl ?_
    refine zg_iald (q := 26) C dX8_isSymmetry_25 rfl v.1 ?_
    have v := v.2
    refine zg_aload_n (q := 27) C dX8_isSymmetry_26 rfl rfl ?_
    refine zg_get (j := 4) (q := 30) C bX8 (by decide) lkX8_13 dX8_isSymmetry_27 rfl (okA.get v.1) ?_
    have v := v.2
    refine zg_iconst (v := 1) (q := 31) C dX8_isSymmetry_30 (by decide) rfl ?_
    refine zg_iald (q := 32) C dX8_isSymmetry_31 rfl v.1 ?_
    have v := v.2
    refine zg_icmp_eq (t := 37) (q := 35) C dX8_isSymmetry_32 (by decide) rfl (fun c => ?_) (fun c => ?_)
    · have v := v.1 c
      refine zg_iconst (v := 1) (q := 38) C dX8_isSymmetry_37 (by decide) rfl ?_
      refine zg_istore_n (q := 39) C dX8_isSymmetry_38 (by decide) rfl ?_
      refine zg_iconst (v := 0) (q := 40) C dX8_isSymmetry_39 (by decide) rfl ?_
      refine zg_istore_n (q := 41) C dX8_isSymmetry_40 (by decide) rfl ?_
      exact zg_mask [true, true, true, true] v
    · have v := v.2 c
      refine zg_iconst (v := 0) (q := 36) C dX8_isSymmetry_35 (by decide) rfl ?_
      exact zg_zret C rfl dX8_isSymmetry_36 ⟨Nat.le_refl _, Nat.le_refl _⟩ v.1 ⟨_, rfl, v.2⟩
set_option maxRecDepth 100000 in
set_option maxHeartbeats 4000000 in
theorem zsX8_isSymmetry_0 {E : Wd} {X : Mx} {d : Nat} {Q : Int32 → Hp → Prop} (C : zz_C E X YX8_isSymmetry (d + 1) 0 0 (fun r h' => ∃ x : Int32, r = some (.int x) ∧ Q x h')) (a0 : Nat) (x1 : Int32) (h : Hp) (v : vcX8_isSymmetry_0 E d (zkX8_isSymmetry_41 E X) a0 x1 h Q) : GG E X 4 0 0 0 [some (.ref a0), some (.int x1), none, none] [] h := by
  refine zg_aload_n (q := 1) C dX8_isSymmetry_0 rfl rfl ?_
  refine zg_cV0I (q := 4) C mX8_hasPawns vX8_hasPawns lmX8_231 rfl (bX8).1 v.1 (Nat.le_of_ble_eq_true rfl) ⟨Nat.le_refl _, Nat.le_refl _⟩ dX8_isSymmetry_1 rfl v.2 (fun r2 h1 v => ?_)
  refine zg_if_eq (t := 12) (q := 7) C dX8_isSymmetry_4 (by decide) rfl (fun c => ?_) (fun c => ?_)
  · have v := v.1 c
    exact zg_mask [true, true, false, false] (zsX8_isSymmetry_12 C _ _ _ v)
  · have v := v.2 c
    refine zg_iload_n (q := 8) C dX8_isSymmetry_7 rfl rfl ?_
    refine zg_iconst (v := 1) (q := 9) C dX8_isSymmetry_8 (by decide) rfl ?_
    refine zg_icmp_gt (t := 35) (q := 12) C dX8_isSymmetry_9 (by decide) rfl (fun c => ?_) (fun c => ?_)
    · have v := v.1 c
      refine zg_iconst (v := 0) (q := 36) C dX8_isSymmetry_35 (by decide) rfl ?_
      exact zg_zret C rfl dX8_isSymmetry_36 ⟨Nat.le_refl _, Nat.le_refl _⟩ v.1 ⟨_, rfl, v.2⟩
    · have v := v.2 c
      exact zg_mask [true, true, false, false] (zsX8_isSymmetry_12 C _ _ _ v)
set_option maxRecDepth 100000 in
set_option maxHeartbeats 4000000 in
theorem zsX8_isSymmetry_41 {E : Wd} {X : Mx} {d : Nat} {Q : Int32 → Hp → Prop} (C : zz_C E X YX8_isSymmetry (d + 1) 0 0 (fun r h' => ∃ x : Int32, r = some (.int x) ∧ Q x h')) (a0 : Nat) (x1 : Int32) (x2 : Int32) (x3 : Int32) (h : Hp) (v : vcX8_isSymmetry_41 E d (zkX8_isSymmetry_41 E X) a0 x1 x2 x3 h Q) : GG E X 4 0 0 41 [some (.ref a0), some (.int x1), some (.int x2), some (.int x3)] [] h := by
  refine zg_iload_n (q := 42) C dX8_isSymmetry_41 rfl rfl ?_
  refine zg_aload_n (q := 43) C dX8_isSymmetry_42 rfl rfl ?_
  refine zg_cV0I (q := 46) C mX8_squares vX8_squares lmX8_152 rfl (bX8).1 v.1 (Nat.le_of_ble_eq_true rfl) ⟨Nat.le_refl _, Nat.le_refl _⟩ dX8_isSymmetry_43 rfl v.2 (fun r2 h1 v => ?_)
  refine zg_icmp_ge (t := 91) (q := 49) C dX8_isSymmetry_46 (by decide) rfl (fun c => ?_) (fun c => ?_)
  · have v := v.1 c
    refine zg_iload_n (q := 92) C dX8_isSymmetry_91 rfl rfl ?_
    exact zg_zret C rfl dX8_isSymmetry_92 ⟨Nat.le_refl _, Nat.le_refl _⟩ v.1 ⟨_, rfl, v.2⟩
  · have v := v.2 c
    refine zg_iload_n (q := 50) C dX8_isSymmetry_49 rfl rfl ?_
    refine zg_aload_n (q := 51) C dX8_isSymmetry_50 rfl rfl ?_
    refine zg_get (j := 4) (q := 54) C bX8 (by decide) lkX8_13 dX8_isSymmetry_51 rfl (okA.get v.1) ?_
    have v := v.2
    refine zg_iconst (v := 4) (q := 55) C dX8_isSymmetry_54 (by decide) rfl ?_
    refine zg_iald (q := 56) C dX8_isSymmetry_55 rfl v.1 ?_
    have v := v.2
    refine zg_iload_n (q := 57) C dX8_isSymmetry_56 rfl rfl ?_
    refine zg_cS2I (q := 60) C mX8_has tX8_has lmX8_164 rfl (Nat.le_of_ble_eq_true rfl) ⟨Nat.le_refl _, Nat.le_refl _⟩ dX8_isSymmetry_57 rfl v (fun r4 h3 v => ?_)
    refine zg_aload_n (q := 61) C dX8_isSymmetry_60 rfl rfl ?_
    refine zg_get (j := 4) (q := 64) C bX8 (by decide) lkX8_13 dX8_isSymmetry_61 rfl (okA.get v.1) ?_
    have v := v.2
    refine zg_iconst (v := 4) (q := 65) C dX8_isSymmetry_64 (by decide) rfl ?_
    refine zg_iald (q := 66) C dX8_isSymmetry_65 rfl v.1 ?_
    have v := v.2
    refine zg_aload_n (q := 67) C dX8_isSymmetry_66 rfl rfl ?_
    refine zg_iload_n (q := 68) C dX8_isSymmetry_67 rfl rfl ?_
    refine zg_iload_n (q := 69) C dX8_isSymmetry_68 rfl rfl ?_
    refine zg_cV2I (q := 72) C mX8_turned vX8_turned lmX8_235 rfl (bX8).1 v.1 (Nat.le_of_ble_eq_true rfl) ⟨Nat.le_refl _, Nat.le_refl _⟩ dX8_isSymmetry_69 rfl v.2 (fun r6 h5 v => ?_)
    refine zg_cS2I (q := 75) C mX8_has tX8_has lmX8_164 rfl (Nat.le_of_ble_eq_true rfl) ⟨Nat.le_refl _, Nat.le_refl _⟩ dX8_isSymmetry_72 rfl v (fun r8 h7 v => ?_)
    refine zg_icmp_ne (t := 82) (q := 78) C dX8_isSymmetry_75 (by decide) rfl (fun c => ?_) (fun c => ?_)
    · have v := v.1 c
      refine zg_iconst (v := 0) (q := 83) C dX8_isSymmetry_82 (by decide) rfl ?_
      refine zg_iand (q := 84) C dX8_isSymmetry_83 rfl ?_
      refine zg_istore_n (q := 85) C dX8_isSymmetry_84 (by decide) rfl ?_
      refine zg_iinc (v := 1) (q := 88) C dX8_isSymmetry_85 rfl (by decide) (by decide) rfl ?_
      refine zg_goto (t := 41) C dX8_isSymmetry_88 (by decide) ?_
      exact zg_mask [true, true, true, true] v
    · have v := v.2 c
      refine zg_iconst (v := 1) (q := 79) C dX8_isSymmetry_78 (by decide) rfl ?_
      refine zg_goto (t := 83) C dX8_isSymmetry_79 (by decide) ?_
      refine zg_iand (q := 84) C dX8_isSymmetry_83 rfl ?_
      refine zg_istore_n (q := 85) C dX8_isSymmetry_84 (by decide) rfl ?_
      refine zg_iinc (v := 1) (q := 88) C dX8_isSymmetry_85 rfl (by decide) (by decide) rfl ?_
      refine zg_goto (t := 41) C dX8_isSymmetry_88 (by decide) ?_
      exact zg_mask [true, true, true, true] v
theorem rnX8_isSymmetry {E : Wd} {d : Nat} {a0 : Nat} {x1 : Int32} {h : Hp} {Q : Int32 → Hp → Prop} (k : ∀ (K41 : Nat → Int32 → Int32 → Int32 → Hp → Prop),(∀ (a0 : Nat) (x1 : Int32) (x2 : Int32) (x3 : Int32) h, vcX8_isSymmetry_41 E d K41 a0 x1 x2 x3 h Q → K41 a0 x1 x2 x3 h) → vcX8_isSymmetry_0 E d K41 a0 x1 h Q) : OkI E YX8_isSymmetry (d + 1) [.ref a0, .int x1] h Q :=
  zz_body2 (r := 2) mX8_isSymmetry (zc_a (zc_i zc_n)) (Nat.le_of_ble_eq_true rfl) (fun X C => zsX8_isSymmetry_0 C a0 x1 h (k (zkX8_isSymmetry_41 E X) (fun a0 x1 x2 x3 h v => zsX8_isSymmetry_41 C a0 x1 x2 x3 h v)))
def vcX8_countSymmetries_0 (E : Wd) (d : Nat) (K4 : Nat → Int32 → Int32 → Hp → Prop) (a0 : Nat) (h : Hp) (Q : Int32 → Hp → Prop) : Prop :=
  K4 a0 0 0 h
def vcX8_countSymmetries_4 (E : Wd) (d : Nat) (K4 : Nat → Int32 → Int32 → Hp → Prop) (a0 : Nat) (x1 : Int32) (x2 : Int32) (h : Hp) (Q : Int32 → Hp → Prop) : Prop :=
  ((8 : Int32) ≤ x2 → Q x1 h) ∧ (¬ (8 : Int32) ≤ x2 → isO h a0 8 ∧ OkI E YX8_isSymmetry d [.ref a0, .int x2] h (fun r2 h1 => (r2 = (0 : Int32) → K4 a0 (x1 + (0 : Int32)) (x2 + 1) h1) ∧ (¬ r2 = (0 : Int32) → K4 a0 (x1 + (1 : Int32)) (x2 + 1) h1)))
def zkX8_countSymmetries_4 (E : Wd) (X : Mx) : Nat → Int32 → Int32 → Hp → Prop := fun a0 x1 x2 h => GG E X 3 0 0 4 [some (.ref a0), some (.int x1), some (.int x2)] [] h
set_option maxRecDepth 100000 in
set_option maxHeartbeats 4000000 in
theorem zsX8_countSymmetries_0 {E : Wd} {X : Mx} {d : Nat} {Q : Int32 → Hp → Prop} (C : zz_C E X YX8_countSymmetries (d + 1) 0 0 (fun r h' => ∃ x : Int32, r = some (.int x) ∧ Q x h')) (a0 : Nat) (h : Hp) (v : vcX8_countSymmetries_0 E d (zkX8_countSymmetries_4 E X) a0 h Q) : GG E X 3 0 0 0 [some (.ref a0), none, none] [] h := by
  refine zg_iconst (v := 0) (q := 1) C dX8_countSymmetries_0 (by decide) rfl ?_
  refine zg_istore_n (q := 2) C dX8_countSymmetries_1 (by decide) rfl ?_
  refine zg_iconst (v := 0) (q := 3) C dX8_countSymmetries_2 (by decide) rfl ?_
  refine zg_istore_n (q := 4) C dX8_countSymmetries_3 (by decide) rfl ?_
  exact zg_mask [true, true, true] v
set_option maxRecDepth 100000 in
set_option maxHeartbeats 4000000 in
theorem zsX8_countSymmetries_4 {E : Wd} {X : Mx} {d : Nat} {Q : Int32 → Hp → Prop} (C : zz_C E X YX8_countSymmetries (d + 1) 0 0 (fun r h' => ∃ x : Int32, r = some (.int x) ∧ Q x h')) (a0 : Nat) (x1 : Int32) (x2 : Int32) (h : Hp) (v : vcX8_countSymmetries_4 E d (zkX8_countSymmetries_4 E X) a0 x1 x2 h Q) : GG E X 3 0 0 4 [some (.ref a0), some (.int x1), some (.int x2)] [] h := by
  refine zg_iload_n (q := 5) C dX8_countSymmetries_4 rfl rfl ?_
  refine zg_bipush (v := 8) (q := 7) C dX8_countSymmetries_5 (by decide) rfl ?_
  refine zg_icmp_ge (t := 32) (q := 10) C dX8_countSymmetries_7 (by decide) rfl (fun c => ?_) (fun c => ?_)
  · have v := v.1 c
    refine zg_iload_n (q := 33) C dX8_countSymmetries_32 rfl rfl ?_
    exact zg_iret C rfl dX8_countSymmetries_33 ⟨Nat.le_refl _, Nat.le_refl _⟩ ⟨_, rfl, v⟩
  · have v := v.2 c
    refine zg_iload_n (q := 11) C dX8_countSymmetries_10 rfl rfl ?_
    refine zg_aload_n (q := 12) C dX8_countSymmetries_11 rfl rfl ?_
    refine zg_iload_n (q := 13) C dX8_countSymmetries_12 rfl rfl ?_
    refine zg_cV1I (q := 16) C mX8_isSymmetry vX8_isSymmetry lmX8_238 rfl (bX8).1 v.1 (Nat.le_of_ble_eq_true rfl) ⟨Nat.le_refl _, Nat.le_refl _⟩ dX8_countSymmetries_13 rfl v.2 (fun r2 h1 v => ?_)
    refine zg_if_eq (t := 23) (q := 19) C dX8_countSymmetries_16 (by decide) rfl (fun c => ?_) (fun c => ?_)
    · have v := v.1 c
      refine zg_iconst (v := 0) (q := 24) C dX8_countSymmetries_23 (by decide) rfl ?_
      refine zg_iadd (q := 25) C dX8_countSymmetries_24 rfl ?_
      refine zg_istore_n (q := 26) C dX8_countSymmetries_25 (by decide) rfl ?_
      refine zg_iinc (v := 1) (q := 29) C dX8_countSymmetries_26 rfl (by decide) (by decide) rfl ?_
      refine zg_goto (t := 4) C dX8_countSymmetries_29 (by decide) ?_
      exact zg_mask [true, true, true] v
    · have v := v.2 c
      refine zg_iconst (v := 1) (q := 20) C dX8_countSymmetries_19 (by decide) rfl ?_
      refine zg_goto (t := 24) C dX8_countSymmetries_20 (by decide) ?_
      refine zg_iadd (q := 25) C dX8_countSymmetries_24 rfl ?_
      refine zg_istore_n (q := 26) C dX8_countSymmetries_25 (by decide) rfl ?_
      refine zg_iinc (v := 1) (q := 29) C dX8_countSymmetries_26 rfl (by decide) (by decide) rfl ?_
      refine zg_goto (t := 4) C dX8_countSymmetries_29 (by decide) ?_
      exact zg_mask [true, true, true] v
theorem rnX8_countSymmetries {E : Wd} {d : Nat} {a0 : Nat} {h : Hp} {Q : Int32 → Hp → Prop} (k : ∀ (K4 : Nat → Int32 → Int32 → Hp → Prop),(∀ (a0 : Nat) (x1 : Int32) (x2 : Int32) h, vcX8_countSymmetries_4 E d K4 a0 x1 x2 h Q → K4 a0 x1 x2 h) → vcX8_countSymmetries_0 E d K4 a0 h Q) : OkI E YX8_countSymmetries (d + 1) [.ref a0] h Q :=
  zz_body2 (r := 2) mX8_countSymmetries (zc_a zc_n) (Nat.le_of_ble_eq_true rfl) (fun X C => zsX8_countSymmetries_0 C a0 h (k (zkX8_countSymmetries_4 E X) (fun a0 x1 x2 h v => zsX8_countSymmetries_4 C a0 x1 x2 h v)))
def vcX8_imageOf_0 (E : Wd) (d : Nat) (K11 : Nat → Int32 → Int32 → Int32 → Hp → Prop) (a0 : Nat) (x1 : Int32) (x2 : Int32) (h : Hp) (Q : Int32 → Hp → Prop) : Prop :=
  okA h a0 8 21 ∧ isO h a0 8 ∧ OkV E YX8_decode d [.ref a0, .int x1, .ref (fA h a0 21)] h (fun h1 => K11 a0 x1 x2 0 h1)
def vcX8_imageOf_11 (E : Wd) (d : Nat) (K11 : Nat → Int32 → Int32 → Int32 → Hp → Prop) (a0 : Nat) (x1 : Int32) (x2 : Int32) (x3 : Int32) (h : Hp) (Q : Int32 → Hp → Prop) : Prop :=
  ((3 : Int32) ≤ x3 → okA h a0 8 22 ∧ (¬ (2 : Int32) = (0 : Int32)) ∧ isO h a0 8 ∧ OkI E YX8_indexOf d [.ref a0, .ref (fA h a0 22), .int (x1 - x1 / (2 : Int32) * (2 : Int32))] h (fun r2 h1 => Q r2 h1)) ∧ (¬ (3 : Int32) ≤ x3 → okA h a0 8 22 ∧ okA h a0 8 21 ∧ okR E h (fA h a0 21) 0 x3 ∧ isO h a0 8 ∧ OkI E YX8_turned d [.ref a0, .int x2, .int (gA h (fA h a0 21) x3)] h (fun r4 h3 => okR E h3 (fA h a0 22) 0 x3 ∧ ∀ h5, h5 = sA h3 (fA h a0 22) x3 r4 → K11 a0 x1 x2 (x3 + 1) h5))
def zkX8_imageOf_11 (E : Wd) (X : Mx) : Nat → Int32 → Int32 → Int32 → Hp → Prop := fun a0 x1 x2 x3 h => GG E X 4 0 0 11 [some (.ref a0), some (.int x1), some (.int x2), some (.int x3)] [] h
set_option maxRecDepth 100000 in
set_option maxHeartbeats 4000000 in
theorem zsX8_imageOf_0 {E : Wd} {X : Mx} {d : Nat} {Q : Int32 → Hp → Prop} (C : zz_C E X YX8_imageOf (d + 1) 0 0 (fun r h' => ∃ x : Int32, r = some (.int x) ∧ Q x h')) (a0 : Nat) (x1 : Int32) (x2 : Int32) (h : Hp) (v : vcX8_imageOf_0 E d (zkX8_imageOf_11 E X) a0 x1 x2 h Q) : GG E X 4 0 0 0 [some (.ref a0), some (.int x1), some (.int x2), none] [] h := by
  refine zg_aload_n (q := 1) C dX8_imageOf_0 rfl rfl ?_
  refine zg_iload_n (q := 2) C dX8_imageOf_1 rfl rfl ?_
  refine zg_aload_n (q := 3) C dX8_imageOf_2 rfl rfl ?_
  refine zg_get (j := 21) (q := 6) C bX8 (by decide) lkX8_61 dX8_imageOf_3 rfl (okA.get v.1) ?_
  have v := v.2
  refine zg_cV2V (q := 9) C mX8_decode vX8_decode lmX8_201 rfl (bX8).1 v.1 (Nat.le_of_ble_eq_true rfl) ⟨Nat.le_refl _, Nat.le_refl _⟩ dX8_imageOf_6 rfl v.2 (fun h1 v => ?_)
  refine zg_iconst (v := 0) (q := 10) C dX8_imageOf_9 (by decide) rfl ?_
  refine zg_istore_n (q := 11) C dX8_imageOf_10 (by decide) rfl ?_
  exact zg_mask [true, true, true, true] v
set_option maxRecDepth 100000 in
set_option maxHeartbeats 4000000 in
theorem zsX8_imageOf_11 {E : Wd} {X : Mx} {d : Nat} {Q : Int32 → Hp → Prop} (C : zz_C E X YX8_imageOf (d + 1) 0 0 (fun r h' => ∃ x : Int32, r = some (.int x) ∧ Q x h')) (a0 : Nat) (x1 : Int32) (x2 : Int32) (x3 : Int32) (h : Hp) (v : vcX8_imageOf_11 E d (zkX8_imageOf_11 E X) a0 x1 x2 x3 h Q) : GG E X 4 0 0 11 [some (.ref a0), some (.int x1), some (.int x2), some (.int x3)] [] h := by
  refine zg_iload_n (q := 12) C dX8_imageOf_11 rfl rfl ?_
  refine zg_iconst (v := 3) (q := 13) C dX8_imageOf_12 (by decide) rfl ?_
  refine zg_icmp_ge (t := 39) (q := 16) C dX8_imageOf_13 (by decide) rfl (fun c => ?_) (fun c => ?_)
  · have v := v.1 c
    refine zg_aload_n (q := 40) C dX8_imageOf_39 rfl rfl ?_
    refine zg_aload_n (q := 41) C dX8_imageOf_40 rfl rfl ?_
    refine zg_get (j := 22) (q := 44) C bX8 (by decide) lkX8_64 dX8_imageOf_41 rfl (okA.get v.1) ?_
    have v := v.2
    refine zg_iload_n (q := 45) C dX8_imageOf_44 rfl rfl ?_
    refine zg_iconst (v := 2) (q := 46) C dX8_imageOf_45 (by decide) rfl ?_
    refine zg_irem (q := 47) C dX8_imageOf_46 v.1 rfl ?_
    have v := v.2
    refine zg_cV2I (q := 50) C mX8_indexOf vX8_indexOf lmX8_199 rfl (bX8).1 v.1 (Nat.le_of_ble_eq_true rfl) ⟨Nat.le_refl _, Nat.le_refl _⟩ dX8_imageOf_47 rfl v.2 (fun r2 h1 v => ?_)
    exact zg_iret C rfl dX8_imageOf_50 ⟨Nat.le_refl _, Nat.le_refl _⟩ ⟨_, rfl, v⟩
  · have v := v.2 c
    refine zg_aload_n (q := 17) C dX8_imageOf_16 rfl rfl ?_
    refine zg_get (j := 22) (q := 20) C bX8 (by decide) lkX8_64 dX8_imageOf_17 rfl (okA.get v.1) ?_
    have v := v.2
    refine zg_iload_n (q := 21) C dX8_imageOf_20 rfl rfl ?_
    refine zg_aload_n (q := 22) C dX8_imageOf_21 rfl rfl ?_
    refine zg_iload_n (q := 23) C dX8_imageOf_22 rfl rfl ?_
    refine zg_aload_n (q := 24) C dX8_imageOf_23 rfl rfl ?_
    refine zg_get (j := 21) (q := 27) C bX8 (by decide) lkX8_61 dX8_imageOf_24 rfl (okA.get v.1) ?_
    have v := v.2
    refine zg_iload_n (q := 28) C dX8_imageOf_27 rfl rfl ?_
    refine zg_iald (q := 29) C dX8_imageOf_28 rfl v.1 ?_
    have v := v.2
    refine zg_cV2I (q := 32) C mX8_turned vX8_turned lmX8_235 rfl (bX8).1 v.1 (Nat.le_of_ble_eq_true rfl) ⟨Nat.le_refl _, Nat.le_refl _⟩ dX8_imageOf_29 rfl v.2 (fun r4 h3 v => ?_)
    refine zg_iast (q := 33) C dX8_imageOf_32 rfl v.1 ?_
    have v := v.2 _ rfl
    refine zg_iinc (v := 1) (q := 36) C dX8_imageOf_33 rfl (by decide) (by decide) rfl ?_
    refine zg_goto (t := 11) C dX8_imageOf_36 (by decide) ?_
    exact zg_mask [true, true, true, true] v
theorem rnX8_imageOf {E : Wd} {d : Nat} {a0 : Nat} {x1 : Int32} {x2 : Int32} {h : Hp} {Q : Int32 → Hp → Prop} (k : ∀ (K11 : Nat → Int32 → Int32 → Int32 → Hp → Prop),(∀ (a0 : Nat) (x1 : Int32) (x2 : Int32) (x3 : Int32) h, vcX8_imageOf_11 E d K11 a0 x1 x2 x3 h Q → K11 a0 x1 x2 x3 h) → vcX8_imageOf_0 E d K11 a0 x1 x2 h Q) : OkI E YX8_imageOf (d + 1) [.ref a0, .int x1, .int x2] h Q :=
  zz_body2 (r := 1) mX8_imageOf (zc_a (zc_i (zc_i zc_n))) (Nat.le_of_ble_eq_true rfl) (fun X C => zsX8_imageOf_0 C a0 x1 x2 h (k (zkX8_imageOf_11 E X) (fun a0 x1 x2 x3 h v => zsX8_imageOf_11 C a0 x1 x2 x3 h v)))
def vcX8_canonical_0 (E : Wd) (d : Nat) (K4 : Nat → Int32 → Int32 → Int32 → Hp → Prop) (a0 : Nat) (x1 : Int32) (h : Hp) (Q : Int32 → Hp → Prop) : Prop :=
  K4 a0 x1 x1 0 h
def vcX8_canonical_28 (E : Wd) (d : Nat) (K4 : Nat → Int32 → Int32 → Int32 → Hp → Prop) (a0 : Nat) (x1 : Int32) (x2 : Int32) (x3 : Int32) (s0 : Int32) (h : Hp) (Q : Int32 → Hp → Prop) : Prop :=
  (x2 ≤ s0 → K4 a0 x1 x2 (x3 + 1) h) ∧ (¬ x2 ≤ s0 → K4 a0 x1 s0 (x3 + 1) h)
def vcX8_canonical_4 (E : Wd) (d : Nat) (K4 : Nat → Int32 → Int32 → Int32 → Hp → Prop) (a0 : Nat) (x1 : Int32) (x2 : Int32) (x3 : Int32) (h : Hp) (Q : Int32 → Hp → Prop) : Prop :=
  ((8 : Int32) ≤ x3 → Q x2 h) ∧ (¬ (8 : Int32) ≤ x3 → isO h a0 8 ∧ OkI E YX8_isSymmetry d [.ref a0, .int x3] h (fun r2 h1 => (r2 = (0 : Int32) → vcX8_canonical_28 E d K4 a0 x1 x2 x3 x1 h1 Q) ∧ (¬ r2 = (0 : Int32) → isO h1 a0 8 ∧ OkI E YX8_imageOf d [.ref a0, .int x1, .int x3] h1 (fun r4 h3 => vcX8_canonical_28 E d K4 a0 x1 x2 x3 r4 h3 Q))))
def zkX8_canonical_4 (E : Wd) (X : Mx) : Nat → Int32 → Int32 → Int32 → Hp → Prop := fun a0 x1 x2 x3 h => GG E X 5 0 0 4 [some (.ref a0), some (.int x1), some (.int x2), some (.int x3), none] [] h
set_option maxRecDepth 100000 in
set_option maxHeartbeats 4000000 in
theorem zsX8_canonical_0 {E : Wd} {X : Mx} {d : Nat} {Q : Int32 → Hp → Prop} (C : zz_C E X YX8_canonical (d + 1) 0 0 (fun r h' => ∃ x : Int32, r = some (.int x) ∧ Q x h')) (a0 : Nat) (x1 : Int32) (h : Hp) (v : vcX8_canonical_0 E d (zkX8_canonical_4 E X) a0 x1 h Q) : GG E X 5 0 0 0 [some (.ref a0), some (.int x1), none, none, none] [] h := by
  refine zg_iload_n (q := 1) C dX8_canonical_0 rfl rfl ?_
  refine zg_istore_n (q := 2) C dX8_canonical_1 (by decide) rfl ?_
  refine zg_iconst (v := 0) (q := 3) C dX8_canonical_2 (by decide) rfl ?_
  refine zg_istore_n (q := 4) C dX8_canonical_3 (by decide) rfl ?_
  exact zg_mask [true, true, true, true, false] v
set_option maxRecDepth 100000 in
set_option maxHeartbeats 4000000 in
theorem zsX8_canonical_28 {E : Wd} {X : Mx} {d : Nat} {Q : Int32 → Hp → Prop} (C : zz_C E X YX8_canonical (d + 1) 0 0 (fun r h' => ∃ x : Int32, r = some (.int x) ∧ Q x h')) (a0 : Nat) (x1 : Int32) (x2 : Int32) (x3 : Int32) (s0 : Int32) (h : Hp) (v : vcX8_canonical_28 E d (zkX8_canonical_4 E X) a0 x1 x2 x3 s0 h Q) : GG E X 5 0 0 28 [some (.ref a0), some (.int x1), some (.int x2), some (.int x3), none] [.int s0] h := by
  refine zg_istore (q := 30) C dX8_canonical_28 (by decide) rfl ?_
  refine zg_iload (q := 32) C dX8_canonical_30 rfl rfl ?_
  refine zg_iload_n (q := 33) C dX8_canonical_32 rfl rfl ?_
  refine zg_icmp_ge (t := 41) (q := 36) C dX8_canonical_33 (by decide) rfl (fun c => ?_) (fun c => ?_)
  · have v := v.1 c
    refine zg_iload_n (q := 42) C dX8_canonical_41 rfl rfl ?_
    refine zg_istore_n (q := 43) C dX8_canonical_42 (by decide) rfl ?_
    refine zg_iinc (v := 1) (q := 46) C dX8_canonical_43 rfl (by decide) (by decide) rfl ?_
    refine zg_goto (t := 4) C dX8_canonical_46 (by decide) ?_
    exact zg_mask [true, true, true, true, false] v
  · have v := v.2 c
    refine zg_iload (q := 38) C dX8_canonical_36 rfl rfl ?_
    refine zg_goto (t := 42) C dX8_canonical_38 (by decide) ?_
    refine zg_istore_n (q := 43) C dX8_canonical_42 (by decide) rfl ?_
    refine zg_iinc (v := 1) (q := 46) C dX8_canonical_43 rfl (by decide) (by decide) rfl ?_
    refine zg_goto (t := 4) C dX8_canonical_46 (by decide) ?_
    exact zg_mask [true, true, true, true, false] v
set_option maxRecDepth 100000 in
set_option maxHeartbeats 4000000 in
theorem zsX8_canonical_4 {E : Wd} {X : Mx} {d : Nat} {Q : Int32 → Hp → Prop} (C : zz_C E X YX8_canonical (d + 1) 0 0 (fun r h' => ∃ x : Int32, r = some (.int x) ∧ Q x h')) (a0 : Nat) (x1 : Int32) (x2 : Int32) (x3 : Int32) (h : Hp) (v : vcX8_canonical_4 E d (zkX8_canonical_4 E X) a0 x1 x2 x3 h Q) : GG E X 5 0 0 4 [some (.ref a0), some (.int x1), some (.int x2), some (.int x3), none] [] h := by
  refine zg_iload_n (q := 5) C dX8_canonical_4 rfl rfl ?_
  refine zg_bipush (v := 8) (q := 7) C dX8_canonical_5 (by decide) rfl ?_
  refine zg_icmp_ge (t := 49) (q := 10) C dX8_canonical_7 (by decide) rfl (fun c => ?_) (fun c => ?_)
  · have v := v.1 c
    refine zg_iload_n (q := 50) C dX8_canonical_49 rfl rfl ?_
    exact zg_iret C rfl dX8_canonical_50 ⟨Nat.le_refl _, Nat.le_refl _⟩ ⟨_, rfl, v⟩
  · have v := v.2 c
    refine zg_aload_n (q := 11) C dX8_canonical_10 rfl rfl ?_
    refine zg_iload_n (q := 12) C dX8_canonical_11 rfl rfl ?_
    refine zg_cV1I (q := 15) C mX8_isSymmetry vX8_isSymmetry lmX8_238 rfl (bX8).1 v.1 (Nat.le_of_ble_eq_true rfl) ⟨Nat.le_refl _, Nat.le_refl _⟩ dX8_canonical_12 rfl v.2 (fun r2 h1 v => ?_)
    refine zg_if_eq (t := 27) (q := 18) C dX8_canonical_15 (by decide) rfl (fun c => ?_) (fun c => ?_)
    · have v := v.1 c
      refine zg_iload_n (q := 28) C dX8_canonical_27 rfl rfl ?_
      exact zg_mask [true, true, true, true, false] (zsX8_canonical_28 C _ _ _ _ _ _ v)
    · have v := v.2 c
      refine zg_aload_n (q := 19) C dX8_canonical_18 rfl rfl ?_
      refine zg_iload_n (q := 20) C dX8_canonical_19 rfl rfl ?_
      refine zg_iload_n (q := 21) C dX8_canonical_20 rfl rfl ?_
      refine zg_cV2I (q := 24) C mX8_imageOf vX8_imageOf lmX8_241 rfl (bX8).1 v.1 (Nat.le_of_ble_eq_true rfl) ⟨Nat.le_refl _, Nat.le_refl _⟩ dX8_canonical_21 rfl v.2 (fun r4 h3 v => ?_)
      refine zg_goto (t := 28) C dX8_canonical_24 (by decide) ?_
      exact zg_mask [true, true, true, true, false] (zsX8_canonical_28 C _ _ _ _ _ _ v)
theorem rnX8_canonical {E : Wd} {d : Nat} {a0 : Nat} {x1 : Int32} {h : Hp} {Q : Int32 → Hp → Prop} (k : ∀ (K4 : Nat → Int32 → Int32 → Int32 → Hp → Prop),(∀ (a0 : Nat) (x1 : Int32) (x2 : Int32) (x3 : Int32) h, vcX8_canonical_4 E d K4 a0 x1 x2 x3 h Q → K4 a0 x1 x2 x3 h) → vcX8_canonical_0 E d K4 a0 x1 h Q) : OkI E YX8_canonical (d + 1) [.ref a0, .int x1] h Q :=
  zz_body2 (r := 3) mX8_canonical (zc_a (zc_i zc_n)) (Nat.le_of_ble_eq_true rfl) (fun X C => zsX8_canonical_0 C a0 x1 h (k (zkX8_canonical_4 E X) (fun a0 x1 x2 x3 h v => zsX8_canonical_4 C a0 x1 x2 x3 h v)))
def vcX8_countImages_0 (E : Wd) (d : Nat) (K4 : Nat → Int32 → Int32 → Int32 → Hp → Prop) (K20 : Nat → Int32 → Int32 → Int32 → Int32 → Int32 → Hp → Prop) (a0 : Nat) (x1 : Int32) (h : Hp) (Q : Int32 → Hp → Prop) : Prop :=
  K4 a0 x1 0 0 h
def vcX8_countImages_4 (E : Wd) (d : Nat) (K4 : Nat → Int32 → Int32 → Int32 → Hp → Prop) (K20 : Nat → Int32 → Int32 → Int32 → Int32 → Int32 → Hp → Prop) (a0 : Nat) (x1 : Int32) (x2 : Int32) (x3 : Int32) (h : Hp) (Q : Int32 → Hp → Prop) : Prop :=
  ((8 : Int32) ≤ x3 → Q x2 h) ∧ (¬ (8 : Int32) ≤ x3 → isO h a0 8 ∧ OkI E YX8_isSymmetry d [.ref a0, .int x3] h (fun r2 h1 => K20 a0 x1 x2 x3 r2 0 h1))
def vcX8_countImages_69 (E : Wd) (d : Nat) (K4 : Nat → Int32 → Int32 → Int32 → Hp → Prop) (K20 : Nat → Int32 → Int32 → Int32 → Int32 → Int32 → Hp → Prop) (a0 : Nat) (x1 : Int32) (x2 : Int32) (x3 : Int32) (x4 : Int32) (h : Hp) (Q : Int32 → Hp → Prop) : Prop :=
  (x4 = (0 : Int32) → K4 a0 x1 (x2 + (0 : Int32)) (x3 + 1) h) ∧ (¬ x4 = (0 : Int32) → K4 a0 x1 (x2 + (1 : Int32)) (x3 + 1) h)
def vcX8_countImages_56 (E : Wd) (d : Nat) (K4 : Nat → Int32 → Int32 → Int32 → Hp → Prop) (K20 : Nat → Int32 → Int32 → Int32 → Int32 → Int32 → Hp → Prop) (a0 : Nat) (x1 : Int32) (x2 : Int32) (x3 : Int32) (x5 : Int32) (h : Hp) (Q : Int32 → Hp → Prop) : Prop :=
  K20 a0 x1 x2 x3 1 (x5 + 1) h
def vcX8_countImages_20 (E : Wd) (d : Nat) (K4 : Nat → Int32 → Int32 → Int32 → Hp → Prop) (K20 : Nat → Int32 → Int32 → Int32 → Int32 → Int32 → Hp → Prop) (a0 : Nat) (x1 : Int32) (x2 : Int32) (x3 : Int32) (x4 : Int32) (x5 : Int32) (h : Hp) (Q : Int32 → Hp → Prop) : Prop :=
  (x3 ≤ x5 → vcX8_countImages_69 E d K4 K20 a0 x1 x2 x3 x4 h Q) ∧ (¬ x3 ≤ x5 → (x4 = (0 : Int32) → vcX8_countImages_69 E d K4 K20 a0 x1 x2 x3 x4 h Q) ∧ (¬ x4 = (0 : Int32) → isO h a0 8 ∧ OkI E YX8_isSymmetry d [.ref a0, .int x5] h (fun r2 h1 => (r2 = (0 : Int32) → vcX8_countImages_56 E d K4 K20 a0 x1 x2 x3 x5 h1 Q) ∧ (¬ r2 = (0 : Int32) → isO h1 a0 8 ∧ OkI E YX8_imageOf d [.ref a0, .int x1, .int x5] h1 (fun r4 h3 => isO h3 a0 8 ∧ OkI E YX8_imageOf d [.ref a0, .int x1, .int x3] h3 (fun r6 h5 => (r4 = r6 → K20 a0 x1 x2 x3 0 (x5 + 1) h5) ∧ (¬ r4 = r6 → vcX8_countImages_56 E d K4 K20 a0 x1 x2 x3 x5 h5 Q)))))))
def zkX8_countImages_4 (E : Wd) (X : Mx) : Nat → Int32 → Int32 → Int32 → Hp → Prop := fun a0 x1 x2 x3 h => GG E X 6 0 0 4 [some (.ref a0), some (.int x1), some (.int x2), some (.int x3), none, none] [] h
def zkX8_countImages_20 (E : Wd) (X : Mx) : Nat → Int32 → Int32 → Int32 → Int32 → Int32 → Hp → Prop := fun a0 x1 x2 x3 x4 x5 h => GG E X 6 0 0 20 [some (.ref a0), some (.int x1), some (.int x2), some (.int x3), some (.int x4), some (.int x5)] [] h
set_option maxRecDepth 100000 in
set_option maxHeartbeats 4000000 in
theorem zsX8_countImages_0 {E : Wd} {X : Mx} {d : Nat} {Q : Int32 → Hp → Prop} (C : zz_C E X YX8_countImages (d + 1) 0 0 (fun r h' => ∃ x : Int32, r = some (.int x) ∧ Q x h')) (a0 : Nat) (x1 : Int32) (h : Hp) (v : vcX8_countImages_0 E d (zkX8_countImages_4 E X) (zkX8_countImages_20 E X) a0 x1 h Q) : GG E X 6 0 0 0 [some (.ref a0), some (.int x1), none, none, none, none] [] h := by
  refine zg_iconst (v := 0) (q := 1) C dX8_countImages_0 (by decide) rfl ?_
  refine zg_istore_n (q := 2) C dX8_countImages_1 (by decide) rfl ?_
  refine zg_iconst (v := 0) (q := 3) C dX8_countImages_2 (by decide) rfl ?_
  refine zg_istore_n (q := 4) C dX8_countImages_3 (by decide) rfl ?_
  exact zg_mask [true, true, true, true, false, false] v
set_option maxRecDepth 100000 in
set_option maxHeartbeats 4000000 in
theorem zsX8_countImages_4 {E : Wd} {X : Mx} {d : Nat} {Q : Int32 → Hp → Prop} (C : zz_C E X YX8_countImages (d + 1) 0 0 (fun r h' => ∃ x : Int32, r = some (.int x) ∧ Q x h')) (a0 : Nat) (x1 : Int32) (x2 : Int32) (x3 : Int32) (h : Hp) (v : vcX8_countImages_4 E d (zkX8_countImages_4 E X) (zkX8_countImages_20 E X) a0 x1 x2 x3 h Q) : GG E X 6 0 0 4 [some (.ref a0), some (.int x1), some (.int x2), some (.int x3), none, none] [] h := by
  refine zg_iload_n (q := 5) C dX8_countImages_4 rfl rfl ?_
  refine zg_bipush (v := 8) (q := 7) C dX8_countImages_5 (by decide) rfl ?_
  refine zg_icmp_ge (t := 88) (q := 10) C dX8_countImages_7 (by decide) rfl (fun c => ?_) (fun c => ?_)
  · have v := v.1 c
    refine zg_iload_n (q := 89) C dX8_countImages_88 rfl rfl ?_
    exact zg_iret C rfl dX8_countImages_89 ⟨Nat.le_refl _, Nat.le_refl _⟩ ⟨_, rfl, v⟩
  · have v := v.2 c
    refine zg_aload_n (q := 11) C dX8_countImages_10 rfl rfl ?_
    refine zg_iload_n (q := 12) C dX8_countImages_11 rfl rfl ?_
    refine zg_cV1I (q := 15) C mX8_isSymmetry vX8_isSymmetry lmX8_238 rfl (bX8).1 v.1 (Nat.le_of_ble_eq_true rfl) ⟨Nat.le_refl _, Nat.le_refl _⟩ dX8_countImages_12 rfl v.2 (fun r2 h1 v => ?_)
    refine zg_istore (q := 17) C dX8_countImages_15 (by decide) rfl ?_
    refine zg_iconst (v := 0) (q := 18) C dX8_countImages_17 (by decide) rfl ?_
    refine zg_istore (q := 20) C dX8_countImages_18 (by decide) rfl ?_
    exact zg_mask [true, true, true, true, true, true] v
set_option maxRecDepth 100000 in
set_option maxHeartbeats 4000000 in
theorem zsX8_countImages_69 {E : Wd} {X : Mx} {d : Nat} {Q : Int32 → Hp → Prop} (C : zz_C E X YX8_countImages (d + 1) 0 0 (fun r h' => ∃ x : Int32, r = some (.int x) ∧ Q x h')) (a0 : Nat) (x1 : Int32) (x2 : Int32) (x3 : Int32) (x4 : Int32) (h : Hp) (v : vcX8_countImages_69 E d (zkX8_countImages_4 E X) (zkX8_countImages_20 E X) a0 x1 x2 x3 x4 h Q) : GG E X 6 0 0 69 [some (.ref a0), some (.int x1), some (.int x2), some (.int x3), some (.int x4), none] [] h := by
  refine zg_iload_n (q := 70) C dX8_countImages_69 rfl rfl ?_
  refine zg_iload (q := 72) C dX8_countImages_70 rfl rfl ?_
  refine zg_if_eq (t := 79) (q := 75) C dX8_countImages_72 (by decide) rfl (fun c => ?_) (fun c => ?_)
  · have v := v.1 c
    refine zg_iconst (v := 0) (q := 80) C dX8_countImages_79 (by decide) rfl ?_
    refine zg_iadd (q := 81) C dX8_countImages_80 rfl ?_
    refine zg_istore_n (q := 82) C dX8_countImages_81 (by decide) rfl ?_
    refine zg_iinc (v := 1) (q := 85) C dX8_countImages_82 rfl (by decide) (by decide) rfl ?_
    refine zg_goto (t := 4) C dX8_countImages_85 (by decide) ?_
    exact zg_mask [true, true, true, true, false, false] v
  · have v := v.2 c
    refine zg_iconst (v := 1) (q := 76) C dX8_countImages_75 (by decide) rfl ?_
    refine zg_goto (t := 80) C dX8_countImages_76 (by decide) ?_
    refine zg_iadd (q := 81) C dX8_countImages_80 rfl ?_
    refine zg_istore_n (q := 82) C dX8_countImages_81 (by decide) rfl ?_
    refine zg_iinc (v := 1) (q := 85) C dX8_countImages_82 rfl (by decide) (by decide) rfl ?_
    refine zg_goto (t := 4) C dX8_countImages_85 (by decide) ?_
    exact zg_mask [true, true, true, true, false, false] v
set_option maxRecDepth 100000 in
set_option maxHeartbeats 4000000 in
theorem zsX8_countImages_56 {E : Wd} {X : Mx} {d : Nat} {Q : Int32 → Hp → Prop} (C : zz_C E X YX8_countImages (d + 1) 0 0 (fun r h' => ∃ x : Int32, r = some (.int x) ∧ Q x h')) (a0 : Nat) (x1 : Int32) (x2 : Int32) (x3 : Int32) (x5 : Int32) (h : Hp) (v : vcX8_countImages_56 E d (zkX8_countImages_4 E X) (zkX8_countImages_20 E X) a0 x1 x2 x3 x5 h Q) : GG E X 6 0 0 56 [some (.ref a0), some (.int x1), some (.int x2), some (.int x3), none, some (.int x5)] [] h := by
  refine zg_iconst (v := 1) (q := 57) C dX8_countImages_56 (by decide) rfl ?_
  refine zg_goto (t := 61) C dX8_countImages_57 (by decide) ?_
  refine zg_istore (q := 63) C dX8_countImages_61 (by decide) rfl ?_
  refine zg_iinc (v := 1) (q := 66) C dX8_countImages_63 rfl (by decide) (by decide) rfl ?_
  refine zg_goto (t := 20) C dX8_countImages_66 (by decide) ?_
  exact zg_mask [true, true, true, true, true, true] v
set_option maxRecDepth 100000 in
set_option maxHeartbeats 4000000 in
theorem zsX8_countImages_20 {E : Wd} {X : Mx} {d : Nat} {Q : Int32 → Hp → Prop} (C : zz_C E X YX8_countImages (d + 1) 0 0 (fun r h' => ∃ x : Int32, r = some (.int x) ∧ Q x h')) (a0 : Nat) (x1 : Int32) (x2 : Int32) (x3 : Int32) (x4 : Int32) (x5 : Int32) (h : Hp) (v : vcX8_countImages_20 E d (zkX8_countImages_4 E X) (zkX8_countImages_20 E X) a0 x1 x2 x3 x4 x5 h Q) : GG E X 6 0 0 20 [some (.ref a0), some (.int x1), some (.int x2), some (.int x3), some (.int x4), some (.int x5)] [] h := by
  refine zg_iload (q := 22) C dX8_countImages_20 rfl rfl ?_
  refine zg_iload_n (q := 23) C dX8_countImages_22 rfl rfl ?_
  refine zg_icmp_ge (t := 69) (q := 26) C dX8_countImages_23 (by decide) rfl (fun c => ?_) (fun c => ?_)
  · have v := v.1 c
    exact zg_mask [true, true, true, true, true, false] (zsX8_countImages_69 C _ _ _ _ _ _ v)
  · have v := v.2 c
    refine zg_iload (q := 28) C dX8_countImages_26 rfl rfl ?_
    refine zg_if_eq (t := 69) (q := 31) C dX8_countImages_28 (by decide) rfl (fun c => ?_) (fun c => ?_)
    · have v := v.1 c
      exact zg_mask [true, true, true, true, true, false] (zsX8_countImages_69 C _ _ _ _ _ _ v)
    · have v := v.2 c
      refine zg_aload_n (q := 32) C dX8_countImages_31 rfl rfl ?_
      refine zg_iload (q := 34) C dX8_countImages_32 rfl rfl ?_
      refine zg_cV1I (q := 37) C mX8_isSymmetry vX8_isSymmetry lmX8_238 rfl (bX8).1 v.1 (Nat.le_of_ble_eq_true rfl) ⟨Nat.le_refl _, Nat.le_refl _⟩ dX8_countImages_34 rfl v.2 (fun r2 h1 v => ?_)
      refine zg_if_eq (t := 56) (q := 40) C dX8_countImages_37 (by decide) rfl (fun c => ?_) (fun c => ?_)
      · have v := v.1 c
        exact zg_mask [true, true, true, true, false, true] (zsX8_countImages_56 C _ _ _ _ _ _ v)
      · have v := v.2 c
        refine zg_aload_n (q := 41) C dX8_countImages_40 rfl rfl ?_
        refine zg_iload_n (q := 42) C dX8_countImages_41 rfl rfl ?_
        refine zg_iload (q := 44) C dX8_countImages_42 rfl rfl ?_
        refine zg_cV2I (q := 47) C mX8_imageOf vX8_imageOf lmX8_241 rfl (bX8).1 v.1 (Nat.le_of_ble_eq_true rfl) ⟨Nat.le_refl _, Nat.le_refl _⟩ dX8_countImages_44 rfl v.2 (fun r4 h3 v => ?_)
        refine zg_aload_n (q := 48) C dX8_countImages_47 rfl rfl ?_
        refine zg_iload_n (q := 49) C dX8_countImages_48 rfl rfl ?_
        refine zg_iload_n (q := 50) C dX8_countImages_49 rfl rfl ?_
        refine zg_cV2I (q := 53) C mX8_imageOf vX8_imageOf lmX8_241 rfl (bX8).1 v.1 (Nat.le_of_ble_eq_true rfl) ⟨Nat.le_refl _, Nat.le_refl _⟩ dX8_countImages_50 rfl v.2 (fun r6 h5 v => ?_)
        refine zg_icmp_eq (t := 60) (q := 56) C dX8_countImages_53 (by decide) rfl (fun c => ?_) (fun c => ?_)
        · have v := v.1 c
          refine zg_iconst (v := 0) (q := 61) C dX8_countImages_60 (by decide) rfl ?_
          refine zg_istore (q := 63) C dX8_countImages_61 (by decide) rfl ?_
          refine zg_iinc (v := 1) (q := 66) C dX8_countImages_63 rfl (by decide) (by decide) rfl ?_
          refine zg_goto (t := 20) C dX8_countImages_66 (by decide) ?_
          exact zg_mask [true, true, true, true, true, true] v
        · have v := v.2 c
          exact zg_mask [true, true, true, true, false, true] (zsX8_countImages_56 C _ _ _ _ _ _ v)
theorem rnX8_countImages {E : Wd} {d : Nat} {a0 : Nat} {x1 : Int32} {h : Hp} {Q : Int32 → Hp → Prop} (k : ∀ (K4 : Nat → Int32 → Int32 → Int32 → Hp → Prop) (K20 : Nat → Int32 → Int32 → Int32 → Int32 → Int32 → Hp → Prop),(∀ (a0 : Nat) (x1 : Int32) (x2 : Int32) (x3 : Int32) h, vcX8_countImages_4 E d K4 K20 a0 x1 x2 x3 h Q → K4 a0 x1 x2 x3 h) → (∀ (a0 : Nat) (x1 : Int32) (x2 : Int32) (x3 : Int32) (x4 : Int32) (x5 : Int32) h, vcX8_countImages_20 E d K4 K20 a0 x1 x2 x3 x4 x5 h Q → K20 a0 x1 x2 x3 x4 x5 h) → vcX8_countImages_0 E d K4 K20 a0 x1 h Q) : OkI E YX8_countImages (d + 1) [.ref a0, .int x1] h Q :=
  zz_body2 (r := 4) mX8_countImages (zc_a (zc_i zc_n)) (Nat.le_of_ble_eq_true rfl) (fun X C => zsX8_countImages_0 C a0 x1 h (k (zkX8_countImages_4 E X) (zkX8_countImages_20 E X) (fun a0 x1 x2 x3 h v => zsX8_countImages_4 C a0 x1 x2 x3 h v) (fun a0 x1 x2 x3 x4 x5 h v => zsX8_countImages_20 C a0 x1 x2 x3 x4 x5 h v)))
def vcX8_countPossible_0 (E : Wd) (d : Nat) (K4 : Nat → Int32 → Int32 → Hp → Prop) (a0 : Nat) (h : Hp) (Q : Int32 → Hp → Prop) : Prop :=
  K4 a0 0 0 h
def vcX8_countPossible_4 (E : Wd) (d : Nat) (K4 : Nat → Int32 → Int32 → Hp → Prop) (a0 : Nat) (x1 : Int32) (x2 : Int32) (h : Hp) (Q : Int32 → Hp → Prop) : Prop :=
  okI h a0 8 20 ∧ ((fI h a0 20) ≤ x2 → Q x1 h) ∧ (¬ (fI h a0 20) ≤ x2 → okA h a0 8 14 ∧ okR E h (fA h a0 14) 1 x2 ∧ ((gA h (fA h a0 14) x2) = (0 : Int32) → K4 a0 (x1 + (0 : Int32)) (x2 + 1) h) ∧ (¬ (gA h (fA h a0 14) x2) = (0 : Int32) → K4 a0 (x1 + (1 : Int32)) (x2 + 1) h))
def zkX8_countPossible_4 (E : Wd) (X : Mx) : Nat → Int32 → Int32 → Hp → Prop := fun a0 x1 x2 h => GG E X 3 0 0 4 [some (.ref a0), some (.int x1), some (.int x2)] [] h
set_option maxRecDepth 100000 in
set_option maxHeartbeats 4000000 in
theorem zsX8_countPossible_0 {E : Wd} {X : Mx} {d : Nat} {Q : Int32 → Hp → Prop} (C : zz_C E X YX8_countPossible d 0 0 (fun r h' => ∃ x : Int32, r = some (.int x) ∧ Q x h')) (a0 : Nat) (h : Hp) (v : vcX8_countPossible_0 E d (zkX8_countPossible_4 E X) a0 h Q) : GG E X 3 0 0 0 [some (.ref a0), none, none] [] h := by
  refine zg_iconst (v := 0) (q := 1) C dX8_countPossible_0 (by decide) rfl ?_
  refine zg_istore_n (q := 2) C dX8_countPossible_1 (by decide) rfl ?_
  refine zg_iconst (v := 0) (q := 3) C dX8_countPossible_2 (by decide) rfl ?_
  refine zg_istore_n (q := 4) C dX8_countPossible_3 (by decide) rfl ?_
  exact zg_mask [true, true, true] v
set_option maxRecDepth 100000 in
set_option maxHeartbeats 4000000 in
theorem zsX8_countPossible_4 {E : Wd} {X : Mx} {d : Nat} {Q : Int32 → Hp → Prop} (C : zz_C E X YX8_countPossible d 0 0 (fun r h' => ∃ x : Int32, r = some (.int x) ∧ Q x h')) (a0 : Nat) (x1 : Int32) (x2 : Int32) (h : Hp) (v : vcX8_countPossible_4 E d (zkX8_countPossible_4 E X) a0 x1 x2 h Q) : GG E X 3 0 0 4 [some (.ref a0), some (.int x1), some (.int x2)] [] h := by
  refine zg_iload_n (q := 5) C dX8_countPossible_4 rfl rfl ?_
  refine zg_aload_n (q := 6) C dX8_countPossible_5 rfl rfl ?_
  refine zg_get (j := 20) (q := 9) C bX8 (by decide) lkX8_213 dX8_countPossible_6 rfl (okI.get v.1) ?_
  have v := v.2
  refine zg_icmp_ge (t := 35) (q := 12) C dX8_countPossible_9 (by decide) rfl (fun c => ?_) (fun c => ?_)
  · have v := v.1 c
    refine zg_iload_n (q := 36) C dX8_countPossible_35 rfl rfl ?_
    exact zg_iret C rfl dX8_countPossible_36 ⟨Nat.le_refl _, Nat.le_refl _⟩ ⟨_, rfl, v⟩
  · have v := v.2 c
    refine zg_iload_n (q := 13) C dX8_countPossible_12 rfl rfl ?_
    refine zg_aload_n (q := 14) C dX8_countPossible_13 rfl rfl ?_
    refine zg_get (j := 14) (q := 17) C bX8 (by decide) lkX8_42 dX8_countPossible_14 rfl (okA.get v.1) ?_
    have v := v.2
    refine zg_iload_n (q := 18) C dX8_countPossible_17 rfl rfl ?_
    refine zg_zald (q := 19) C dX8_countPossible_18 rfl v.1 ?_
    have v := v.2
    refine zg_if_eq (t := 26) (q := 22) C dX8_countPossible_19 (by decide) rfl (fun c => ?_) (fun c => ?_)
    · have v := v.1 c
      refine zg_iconst (v := 0) (q := 27) C dX8_countPossible_26 (by decide) rfl ?_
      refine zg_iadd (q := 28) C dX8_countPossible_27 rfl ?_
      refine zg_istore_n (q := 29) C dX8_countPossible_28 (by decide) rfl ?_
      refine zg_iinc (v := 1) (q := 32) C dX8_countPossible_29 rfl (by decide) (by decide) rfl ?_
      refine zg_goto (t := 4) C dX8_countPossible_32 (by decide) ?_
      exact zg_mask [true, true, true] v
    · have v := v.2 c
      refine zg_iconst (v := 1) (q := 23) C dX8_countPossible_22 (by decide) rfl ?_
      refine zg_goto (t := 27) C dX8_countPossible_23 (by decide) ?_
      refine zg_iadd (q := 28) C dX8_countPossible_27 rfl ?_
      refine zg_istore_n (q := 29) C dX8_countPossible_28 (by decide) rfl ?_
      refine zg_iinc (v := 1) (q := 32) C dX8_countPossible_29 rfl (by decide) (by decide) rfl ?_
      refine zg_goto (t := 4) C dX8_countPossible_32 (by decide) ?_
      exact zg_mask [true, true, true] v
theorem rnX8_countPossible {E : Wd} {d : Nat} {a0 : Nat} {h : Hp} {Q : Int32 → Hp → Prop} (k : ∀ (K4 : Nat → Int32 → Int32 → Hp → Prop),(∀ (a0 : Nat) (x1 : Int32) (x2 : Int32) h, vcX8_countPossible_4 E d K4 a0 x1 x2 h Q → K4 a0 x1 x2 h) → vcX8_countPossible_0 E d K4 a0 h Q) : OkI E YX8_countPossible d [.ref a0] h Q :=
  zz_body2 (r := 2) mX8_countPossible (zc_a zc_n) (Nat.le_of_ble_eq_true rfl) (fun X C => zsX8_countPossible_0 C a0 h (k (zkX8_countPossible_4 E X) (fun a0 x1 x2 h v => zsX8_countPossible_4 C a0 x1 x2 h v)))
def vcX8_game_0 (E : Wd) (d : Nat) (a0 : Nat) (x1 : Int32) (h : Hp) (Q : Int32 → Hp → Prop) : Prop :=
  okI h a0 8 7 ∧ (¬ (fI h a0 7) = (0 : Int32) → okA h a0 8 4 ∧ okR E h (fA h a0 4) 0 2 ∧ OkI E YX8_isBetween d [.int x1, .int 10, .int ((9 : Int32) + (gA h (fA h a0 4) 2))] h (fun r2 h1 => (r2 = (0 : Int32) → (x1 = (7 : Int32) → isO h1 a0 8 ∧ OkI E YX8_countSymmetries d [.ref a0] h1 (fun r4 h3 => Q r4 h3)) ∧ (¬ x1 = (7 : Int32) → (x1 = (8 : Int32) → isO h1 a0 8 ∧ OkI E YX8_countPossible d [.ref a0] h1 (fun r6 h5 => Q r6 h5)) ∧ (¬ x1 = (8 : Int32) → OkI E YX8_isBetween d [.int x1, .int 0, .int 6] h1 (fun r8 h7 => (r8 = (0 : Int32) → Q ((-1)) h7) ∧ (¬ r8 = (0 : Int32) → okA h7 a0 8 4 ∧ okR E h7 (fA h7 a0 4) 0 x1 ∧ Q (gA h7 (fA h7 a0 4) x1) h7))))) ∧ (¬ r2 = (0 : Int32) → okA h1 a0 8 4 ∧ okR E h1 (fA h1 a0 4) 0 (((7 : Int32) + x1) - (10 : Int32)) ∧ Q (gA h1 (fA h1 a0 4) (((7 : Int32) + x1) - (10 : Int32))) h1))) ∧ ((fI h a0 7) = (0 : Int32) → Q ((-3)) h)
set_option maxRecDepth 100000 in
set_option maxHeartbeats 4000000 in
theorem zsX8_game_0 {E : Wd} {X : Mx} {d : Nat} {Q : Int32 → Hp → Prop} (C : zz_C E X YX8_game (d + 1) 0 0 (fun r h' => ∃ x : Int32, r = some (.int x) ∧ Q x h')) (a0 : Nat) (x1 : Int32) (h : Hp) (v : vcX8_game_0 E d a0 x1 h Q) : GG E X 2 0 0 0 [some (.ref a0), some (.int x1)] [] h := by
  refine zg_aload_n (q := 1) C dX8_game_0 rfl rfl ?_
  refine zg_get (j := 7) (q := 4) C bX8 (by decide) lkX8_146 dX8_game_1 rfl (okI.get v.1) ?_
  have v := v.2
  refine zg_if_ne (t := 10) (q := 7) C dX8_game_4 (by decide) rfl (fun c => ?_) (fun c => ?_)
  · have v := v.1 c
    refine zg_iload_n (q := 11) C dX8_game_10 rfl rfl ?_
    refine zg_bipush (v := 10) (q := 13) C dX8_game_11 (by decide) rfl ?_
    refine zg_bipush (v := 9) (q := 15) C dX8_game_13 (by decide) rfl ?_
    refine zg_aload_n (q := 16) C dX8_game_15 rfl rfl ?_
    refine zg_get (j := 4) (q := 19) C bX8 (by decide) lkX8_13 dX8_game_16 rfl (okA.get v.1) ?_
    have v := v.2
    refine zg_iconst (v := 2) (q := 20) C dX8_game_19 (by decide) rfl ?_
    refine zg_iald (q := 21) C dX8_game_20 rfl v.1 ?_
    have v := v.2
    refine zg_iadd (q := 22) C dX8_game_21 rfl ?_
    refine zg_cS3I (q := 25) C mX8_isBetween tX8_isBetween lmX8_86 rfl (Nat.le_of_ble_eq_true rfl) ⟨Nat.le_refl _, Nat.le_refl _⟩ dX8_game_22 rfl v (fun r2 h1 v => ?_)
    refine zg_if_eq (t := 41) (q := 28) C dX8_game_25 (by decide) rfl (fun c => ?_) (fun c => ?_)
    · have v := v.1 c
      refine zg_iload_n (q := 42) C dX8_game_41 rfl rfl ?_
      by_cases c0 : x1 = (7 : Int32)
      · have v := v.1 c0
        refine zg_look (t := 68) (off := 26) C dX8_game_42 (by decide) (by rw [c0]; decide) (by decide) ?_
        refine zg_aload_n (q := 69) C dX8_game_68 rfl rfl ?_
        refine zg_cV0I (q := 72) C mX8_countSymmetries vX8_countSymmetries lmX8_244 rfl (bX8).1 v.1 (Nat.le_of_ble_eq_true rfl) ⟨Nat.le_refl _, Nat.le_refl _⟩ dX8_game_69 rfl v.2 (fun r4 h3 v => ?_)
        exact zg_iret C rfl dX8_game_72 ⟨Nat.le_refl _, Nat.le_refl _⟩ ⟨_, rfl, v⟩
      · have v := v.2 c0
        by_cases c1 : x1 = (8 : Int32)
        · have v := v.1 c1
          refine zg_look (t := 73) (off := 31) C dX8_game_42 (by decide) (by rw [c1]; decide) (by decide) ?_
          refine zg_aload_n (q := 74) C dX8_game_73 rfl rfl ?_
          refine zg_cV0I (q := 77) C mX8_countPossible vX8_countPossible lmX8_247 rfl (bX8).1 v.1 (Nat.le_of_ble_eq_true rfl) ⟨Nat.le_refl _, Nat.le_refl _⟩ dX8_game_74 rfl v.2 (fun r6 h5 v => ?_)
          exact zg_iret C rfl dX8_game_77 ⟨Nat.le_refl _, Nat.le_refl _⟩ ⟨_, rfl, v⟩
        · have v := v.2 c1
          refine zg_look (t := 78) (off := 36) C dX8_game_42 (by decide) ((lv_osw c0 rfl).trans ((lv_osw c1 rfl).trans rfl)) (by decide) ?_
          refine zg_iload_n (q := 79) C dX8_game_78 rfl rfl ?_
          refine zg_iconst (v := 0) (q := 80) C dX8_game_79 (by decide) rfl ?_
          refine zg_bipush (v := 6) (q := 82) C dX8_game_80 (by decide) rfl ?_
          refine zg_cS3I (q := 85) C mX8_isBetween tX8_isBetween lmX8_86 rfl (Nat.le_of_ble_eq_true rfl) ⟨Nat.le_refl _, Nat.le_refl _⟩ dX8_game_82 rfl v (fun r8 h7 v => ?_)
          refine zg_if_eq (t := 97) (q := 88) C dX8_game_85 (by decide) rfl (fun c => ?_) (fun c => ?_)
          · have v := v.1 c
            refine zg_iconst (v := (-1)) (q := 98) C dX8_game_97 (by decide) rfl ?_
            exact zg_iret C rfl dX8_game_98 ⟨Nat.le_refl _, Nat.le_refl _⟩ ⟨_, rfl, v⟩
          · have v := v.2 c
            refine zg_aload_n (q := 89) C dX8_game_88 rfl rfl ?_
            refine zg_get (j := 4) (q := 92) C bX8 (by decide) lkX8_13 dX8_game_89 rfl (okA.get v.1) ?_
            have v := v.2
            refine zg_iload_n (q := 93) C dX8_game_92 rfl rfl ?_
            refine zg_iald (q := 94) C dX8_game_93 rfl v.1 ?_
            have v := v.2
            refine zg_goto (t := 98) C dX8_game_94 (by decide) ?_
            exact zg_iret C rfl dX8_game_98 ⟨Nat.le_refl _, Nat.le_refl _⟩ ⟨_, rfl, v⟩
    · have v := v.2 c
      refine zg_aload_n (q := 29) C dX8_game_28 rfl rfl ?_
      refine zg_get (j := 4) (q := 32) C bX8 (by decide) lkX8_13 dX8_game_29 rfl (okA.get v.1) ?_
      have v := v.2
      refine zg_bipush (v := 7) (q := 34) C dX8_game_32 (by decide) rfl ?_
      refine zg_iload_n (q := 35) C dX8_game_34 rfl rfl ?_
      refine zg_iadd (q := 36) C dX8_game_35 rfl ?_
      refine zg_bipush (v := 10) (q := 38) C dX8_game_36 (by decide) rfl ?_
      refine zg_isub (q := 39) C dX8_game_38 rfl ?_
      refine zg_iald (q := 40) C dX8_game_39 rfl v.1 ?_
      have v := v.2
      exact zg_iret C rfl dX8_game_40 ⟨Nat.le_refl _, Nat.le_refl _⟩ ⟨_, rfl, v⟩
  · have v := v.2 c
    refine zg_bipush (v := (-3)) (q := 9) C dX8_game_7 (by decide) rfl ?_
    exact zg_iret C rfl dX8_game_9 ⟨Nat.le_refl _, Nat.le_refl _⟩ ⟨_, rfl, v⟩
theorem rnX8_game {E : Wd} {d : Nat} {a0 : Nat} {x1 : Int32} {h : Hp} {Q : Int32 → Hp → Prop} (k : vcX8_game_0 E d a0 x1 h Q) : OkI E YX8_game (d + 1) [.ref a0, .int x1] h Q :=
  zz_body2 (r := 0) mX8_game (zc_a (zc_i zc_n)) (Nat.le_of_ble_eq_true rfl) (fun X C => zsX8_game_0 C a0 x1 h k)
def vcX8_isPlaying_0 (E : Wd) (d : Nat) (a0 : Nat) (h : Hp) (Q : Int32 → Hp → Prop) : Prop :=
  okI h a0 8 7 ∧ ((fI h a0 7) = (0 : Int32) → mB 0 ∧ Q 0 h) ∧ (¬ (fI h a0 7) = (0 : Int32) → okI h a0 8 23 ∧ ((fI h a0 23) < (0 : Int32) → mB 0 ∧ Q 0 h) ∧ (¬ (fI h a0 23) < (0 : Int32) → mB 1 ∧ Q 1 h))
set_option maxRecDepth 100000 in
set_option maxHeartbeats 4000000 in
theorem zsX8_isPlaying_0 {E : Wd} {X : Mx} {d : Nat} {Q : Int32 → Hp → Prop} (C : zz_C E X YX8_isPlaying d 0 0 (fun r h' => ∃ x : Int32, r = some (.int x) ∧ Q x h')) (a0 : Nat) (h : Hp) (v : vcX8_isPlaying_0 E d a0 h Q) : GG E X 1 0 0 0 [some (.ref a0)] [] h := by
  refine zg_aload_n (q := 1) C dX8_isPlaying_0 rfl rfl ?_
  refine zg_get (j := 7) (q := 4) C bX8 (by decide) lkX8_146 dX8_isPlaying_1 rfl (okI.get v.1) ?_
  have v := v.2
  refine zg_if_eq (t := 18) (q := 7) C dX8_isPlaying_4 (by decide) rfl (fun c => ?_) (fun c => ?_)
  · have v := v.1 c
    refine zg_iconst (v := 0) (q := 19) C dX8_isPlaying_18 (by decide) rfl ?_
    exact zg_zret C rfl dX8_isPlaying_19 ⟨Nat.le_refl _, Nat.le_refl _⟩ v.1 ⟨_, rfl, v.2⟩
  · have v := v.2 c
    refine zg_aload_n (q := 8) C dX8_isPlaying_7 rfl rfl ?_
    refine zg_get (j := 23) (q := 11) C bX8 (by decide) lkX8_67 dX8_isPlaying_8 rfl (okI.get v.1) ?_
    have v := v.2
    refine zg_if_lt (t := 18) (q := 14) C dX8_isPlaying_11 (by decide) rfl (fun c => ?_) (fun c => ?_)
    · have v := v.1 c
      refine zg_iconst (v := 0) (q := 19) C dX8_isPlaying_18 (by decide) rfl ?_
      exact zg_zret C rfl dX8_isPlaying_19 ⟨Nat.le_refl _, Nat.le_refl _⟩ v.1 ⟨_, rfl, v.2⟩
    · have v := v.2 c
      refine zg_iconst (v := 1) (q := 15) C dX8_isPlaying_14 (by decide) rfl ?_
      refine zg_goto (t := 19) C dX8_isPlaying_15 (by decide) ?_
      exact zg_zret C rfl dX8_isPlaying_19 ⟨Nat.le_refl _, Nat.le_refl _⟩ v.1 ⟨_, rfl, v.2⟩
theorem rnX8_isPlaying {E : Wd} {d : Nat} {a0 : Nat} {h : Hp} {Q : Int32 → Hp → Prop} (k : vcX8_isPlaying_0 E d a0 h Q) : OkI E YX8_isPlaying d [.ref a0] h Q :=
  zz_body2 (r := 0) mX8_isPlaying (zc_a zc_n) (Nat.le_of_ble_eq_true rfl) (fun X C => zsX8_isPlaying_0 C a0 h k)
def vcX8_here_0 (E : Wd) (d : Nat) (a0 : Nat) (h : Hp) (Q : Int32 → Hp → Prop) : Prop :=
  okA h a0 8 25 ∧ okI h a0 8 23 ∧ okR E h (fA h a0 25) 0 (fI h a0 23) ∧ Q (gA h (fA h a0 25) (fI h a0 23)) h
set_option maxRecDepth 100000 in
set_option maxHeartbeats 4000000 in
theorem zsX8_here_0 {E : Wd} {X : Mx} {d : Nat} {Q : Int32 → Hp → Prop} (C : zz_C E X YX8_here d 0 0 (fun r h' => ∃ x : Int32, r = some (.int x) ∧ Q x h')) (a0 : Nat) (h : Hp) (v : vcX8_here_0 E d a0 h Q) : GG E X 1 0 0 0 [some (.ref a0)] [] h := by
  refine zg_aload_n (q := 1) C dX8_here_0 rfl rfl ?_
  refine zg_get (j := 25) (q := 4) C bX8 (by decide) lkX8_71 dX8_here_1 rfl (okA.get v.1) ?_
  have v := v.2
  refine zg_aload_n (q := 5) C dX8_here_4 rfl rfl ?_
  refine zg_get (j := 23) (q := 8) C bX8 (by decide) lkX8_67 dX8_here_5 rfl (okI.get v.1) ?_
  have v := v.2
  refine zg_iald (q := 9) C dX8_here_8 rfl v.1 ?_
  have v := v.2
  exact zg_iret C rfl dX8_here_9 ⟨Nat.le_refl _, Nat.le_refl _⟩ ⟨_, rfl, v⟩
theorem rnX8_here {E : Wd} {d : Nat} {a0 : Nat} {h : Hp} {Q : Int32 → Hp → Prop} (k : vcX8_here_0 E d a0 h Q) : OkI E YX8_here d [.ref a0] h Q :=
  zz_body2 (r := 0) mX8_here (zc_a zc_n) (Nat.le_of_ble_eq_true rfl) (fun X C => zsX8_here_0 C a0 h k)
def vcX8_begin_0 (E : Wd) (d : Nat) (a0 : Nat) (x1 : Int32) (h : Hp) (Q : Hp → Prop) : Prop :=
  okP h a0 8 23 ∧ ∀ h1, h1 = pF h a0 23 (.int 0) → okA h1 a0 8 25 ∧ okR E h1 (fA h1 a0 25) 0 0 ∧ ∀ h2, h2 = sA h1 (fA h1 a0 25) 0 x1 → okA h2 a0 8 27 ∧ okR E h2 (fA h2 a0 27) 1 0 ∧ mB 0 ∧ ∀ h3, h3 = sA h2 (fA h2 a0 27) 0 0 → Q h3
set_option maxRecDepth 100000 in
set_option maxHeartbeats 4000000 in
theorem zsX8_begin_0 {E : Wd} {X : Mx} {d : Nat} {Q : Hp → Prop} (C : zz_C E X YX8_begin d 0 0 (fun r h' => r = none ∧ Q h')) (a0 : Nat) (x1 : Int32) (h : Hp) (v : vcX8_begin_0 E d a0 x1 h Q) : GG E X 2 0 0 0 [some (.ref a0), some (.int x1)] [] h := by
  refine zg_aload_n (q := 1) C dX8_begin_0 rfl rfl ?_
  refine zg_iconst (v := 0) (q := 2) C dX8_begin_1 (by decide) rfl ?_
  refine zg_put (j := 23) (q := 5) C bX8 (by decide) lkX8_67 dX8_begin_2 rfl rfl v.1 rfl rfl ?_
  have v := v.2 _ rfl
  refine zg_aload_n (q := 6) C dX8_begin_5 rfl rfl ?_
  refine zg_get (j := 25) (q := 9) C bX8 (by decide) lkX8_71 dX8_begin_6 rfl (okA.get v.1) ?_
  have v := v.2
  refine zg_iconst (v := 0) (q := 10) C dX8_begin_9 (by decide) rfl ?_
  refine zg_iload_n (q := 11) C dX8_begin_10 rfl rfl ?_
  refine zg_iast (q := 12) C dX8_begin_11 rfl v.1 ?_
  have v := v.2 _ rfl
  refine zg_aload_n (q := 13) C dX8_begin_12 rfl rfl ?_
  refine zg_get (j := 27) (q := 16) C bX8 (by decide) lkX8_77 dX8_begin_13 rfl (okA.get v.1) ?_
  have v := v.2
  refine zg_iconst (v := 0) (q := 17) C dX8_begin_16 (by decide) rfl ?_
  refine zg_iconst (v := 0) (q := 18) C dX8_begin_17 (by decide) rfl ?_
  refine zg_zast (q := 19) C dX8_begin_18 rfl v.1 v.2.1 ?_
  have v := v.2.2 _ rfl
  exact zg_vret C rfl dX8_begin_19 ⟨Nat.le_refl _, Nat.le_refl _⟩ ⟨rfl, v⟩
theorem rnX8_begin {E : Wd} {d : Nat} {a0 : Nat} {x1 : Int32} {h : Hp} {Q : Hp → Prop} (k : vcX8_begin_0 E d a0 x1 h Q) : OkV E YX8_begin d [.ref a0, .int x1] h Q :=
  zz_body2 (r := 0) mX8_begin (zc_a (zc_i zc_n)) (Nat.le_of_ble_eq_true rfl) (fun X C => zsX8_begin_0 C a0 x1 h k)
def vcX8_isPlace_0 (E : Wd) (d : Nat) (a0 : Nat) (x1 : Int32) (x2 : Int32) (h : Hp) (Q : Int32 → Hp → Prop) : Prop :=
  okA h a0 8 4 ∧ okR E h (fA h a0 4) 0 2 ∧ ((gA h (fA h a0 4) 2) ≤ x1 → OkI E YX8_isBetween d [.int x2, .int ((-1)), .int ((-1))] h (fun r2 h1 => mB r2 ∧ Q r2 h1)) ∧ (¬ (gA h (fA h a0 4) 2) ≤ x1 → isO h a0 8 ∧ OkI E YX8_squares d [.ref a0] h (fun r4 h3 => OkI E YX8_isBetween d [.int x2, .int ((-1)), .int (r4 - (1 : Int32))] h3 (fun r6 h5 => mB r6 ∧ Q r6 h5)))
set_option maxRecDepth 100000 in
set_option maxHeartbeats 4000000 in
theorem zsX8_isPlace_0 {E : Wd} {X : Mx} {d : Nat} {Q : Int32 → Hp → Prop} (C : zz_C E X YX8_isPlace (d + 1) 0 0 (fun r h' => ∃ x : Int32, r = some (.int x) ∧ Q x h')) (a0 : Nat) (x1 : Int32) (x2 : Int32) (h : Hp) (v : vcX8_isPlace_0 E d a0 x1 x2 h Q) : GG E X 3 0 0 0 [some (.ref a0), some (.int x1), some (.int x2)] [] h := by
  refine zg_iload_n (q := 1) C dX8_isPlace_0 rfl rfl ?_
  refine zg_iconst (v := (-1)) (q := 2) C dX8_isPlace_1 (by decide) rfl ?_
  refine zg_iload_n (q := 3) C dX8_isPlace_2 rfl rfl ?_
  refine zg_aload_n (q := 4) C dX8_isPlace_3 rfl rfl ?_
  refine zg_get (j := 4) (q := 7) C bX8 (by decide) lkX8_13 dX8_isPlace_4 rfl (okA.get v.1) ?_
  have v := v.2
  refine zg_iconst (v := 2) (q := 8) C dX8_isPlace_7 (by decide) rfl ?_
  refine zg_iald (q := 9) C dX8_isPlace_8 rfl v.1 ?_
  have v := v.2
  refine zg_icmp_ge (t := 21) (q := 12) C dX8_isPlace_9 (by decide) rfl (fun c => ?_) (fun c => ?_)
  · have v := v.1 c
    refine zg_iconst (v := (-1)) (q := 22) C dX8_isPlace_21 (by decide) rfl ?_
    refine zg_cS3I (q := 25) C mX8_isBetween tX8_isBetween lmX8_86 rfl (Nat.le_of_ble_eq_true rfl) ⟨Nat.le_refl _, Nat.le_refl _⟩ dX8_isPlace_22 rfl v (fun r2 h1 v => ?_)
    exact zg_zret C rfl dX8_isPlace_25 ⟨Nat.le_refl _, Nat.le_refl _⟩ v.1 ⟨_, rfl, v.2⟩
  · have v := v.2 c
    refine zg_aload_n (q := 13) C dX8_isPlace_12 rfl rfl ?_
    refine zg_cV0I (q := 16) C mX8_squares vX8_squares lmX8_152 rfl (bX8).1 v.1 (Nat.le_of_ble_eq_true rfl) ⟨Nat.le_refl _, Nat.le_refl _⟩ dX8_isPlace_13 rfl v.2 (fun r4 h3 v => ?_)
    refine zg_iconst (v := 1) (q := 17) C dX8_isPlace_16 (by decide) rfl ?_
    refine zg_isub (q := 18) C dX8_isPlace_17 rfl ?_
    refine zg_goto (t := 22) C dX8_isPlace_18 (by decide) ?_
    refine zg_cS3I (q := 25) C mX8_isBetween tX8_isBetween lmX8_86 rfl (Nat.le_of_ble_eq_true rfl) ⟨Nat.le_refl _, Nat.le_refl _⟩ dX8_isPlace_22 rfl v (fun r6 h5 v => ?_)
    exact zg_zret C rfl dX8_isPlace_25 ⟨Nat.le_refl _, Nat.le_refl _⟩ v.1 ⟨_, rfl, v.2⟩
theorem rnX8_isPlace {E : Wd} {d : Nat} {a0 : Nat} {x1 : Int32} {x2 : Int32} {h : Hp} {Q : Int32 → Hp → Prop} (k : vcX8_isPlace_0 E d a0 x1 x2 h Q) : OkI E YX8_isPlace (d + 1) [.ref a0, .int x1, .int x2] h Q :=
  zz_body2 (r := 0) mX8_isPlace (zc_a (zc_i (zc_i zc_n))) (Nat.le_of_ble_eq_true rfl) (fun X C => zsX8_isPlace_0 C a0 x1 x2 h k)
def vcX8_setup_103 (E : Wd) (d : Nat) (a0 : Nat) (x4 : Int32) (s0 : Nat) (s1 : Int32) (s2 : Int32) (h : Hp) (Q : Int32 → Hp → Prop) : Prop :=
  okR E h s0 0 s1 ∧ ∀ h1, h1 = sA h s0 s1 s2 → okA h1 a0 8 21 ∧ isO h1 a0 8 ∧ OkI E YX8_indexOf d [.ref a0, .ref (fA h1 a0 21), .int x4] h1 (fun r3 h2 => okA h2 a0 8 14 ∧ okR E h2 (fA h2 a0 14) 1 r3 ∧ (¬ (gA h2 (fA h2 a0 14) r3) = (0 : Int32) → isO h2 a0 8 ∧ OkV E YX8_begin d [.ref a0, .int r3] h2 (fun h4 => Q r3 h4)) ∧ ((gA h2 (fA h2 a0 14) r3) = (0 : Int32) → Q ((-5)) h2))
def vcX8_setup_85 (E : Wd) (d : Nat) (a0 : Nat) (x3 : Int32) (x4 : Int32) (s0 : Nat) (s1 : Int32) (s2 : Int32) (h : Hp) (Q : Int32 → Hp → Prop) : Prop :=
  okR E h s0 0 s1 ∧ ∀ h1, h1 = sA h s0 s1 s2 → okA h1 a0 8 21 ∧ ((0 : Int32) ≤ x3 → vcX8_setup_103 E d a0 x4 (fA h1 a0 21) 2 x3 h1 Q) ∧ (¬ (0 : Int32) ≤ x3 → isO h1 a0 8 ∧ OkI E YX8_squares d [.ref a0] h1 (fun r3 h2 => vcX8_setup_103 E d a0 x4 (fA h1 a0 21) 2 r3 h2 Q))
def vcX8_setup_67 (E : Wd) (d : Nat) (a0 : Nat) (x2 : Int32) (x3 : Int32) (x4 : Int32) (s0 : Nat) (s1 : Int32) (s2 : Int32) (h : Hp) (Q : Int32 → Hp → Prop) : Prop :=
  okR E h s0 0 s1 ∧ ∀ h1, h1 = sA h s0 s1 s2 → okA h1 a0 8 21 ∧ ((0 : Int32) ≤ x2 → vcX8_setup_85 E d a0 x3 x4 (fA h1 a0 21) 1 x2 h1 Q) ∧ (¬ (0 : Int32) ≤ x2 → isO h1 a0 8 ∧ OkI E YX8_squares d [.ref a0] h1 (fun r3 h2 => vcX8_setup_85 E d a0 x3 x4 (fA h1 a0 21) 1 r3 h2 Q))
def vcX8_setup_0 (E : Wd) (d : Nat) (a0 : Nat) (x1 : Int32) (x2 : Int32) (x3 : Int32) (x4 : Int32) (h : Hp) (Q : Int32 → Hp → Prop) : Prop :=
  okI h a0 8 7 ∧ (¬ (fI h a0 7) = (0 : Int32) → OkI E YX8_isBetween d [.int x4, .int 0, .int 1] h (fun r2 h1 => (r2 = (0 : Int32) → Q ((-2)) h1) ∧ (¬ r2 = (0 : Int32) → isO h1 a0 8 ∧ OkI E YX8_isPlace d [.ref a0, .int 0, .int x1] h1 (fun r4 h3 => (r4 = (0 : Int32) → Q ((-2)) h3) ∧ (¬ r4 = (0 : Int32) → isO h3 a0 8 ∧ OkI E YX8_isPlace d [.ref a0, .int 1, .int x2] h3 (fun r6 h5 => (r6 = (0 : Int32) → Q ((-2)) h5) ∧ (¬ r6 = (0 : Int32) → isO h5 a0 8 ∧ OkI E YX8_isPlace d [.ref a0, .int 2, .int x3] h5 (fun r8 h7 => (¬ r8 = (0 : Int32) → okA h7 a0 8 21 ∧ ((0 : Int32) ≤ x1 → vcX8_setup_67 E d a0 x2 x3 x4 (fA h7 a0 21) 0 x1 h7 Q) ∧ (¬ (0 : Int32) ≤ x1 → isO h7 a0 8 ∧ OkI E YX8_squares d [.ref a0] h7 (fun r10 h9 => vcX8_setup_67 E d a0 x2 x3 x4 (fA h7 a0 21) 0 r10 h9 Q))) ∧ (r8 = (0 : Int32) → Q ((-2)) h7))))))))) ∧ ((fI h a0 7) = (0 : Int32) → Q ((-3)) h)
set_option maxRecDepth 100000 in
set_option maxHeartbeats 4000000 in
theorem zsX8_setup_103 {E : Wd} {X : Mx} {d : Nat} {Q : Int32 → Hp → Prop} (C : zz_C E X YX8_setup (d + 1) 0 0 (fun r h' => ∃ x : Int32, r = some (.int x) ∧ Q x h')) (a0 : Nat) (x4 : Int32) (s0 : Nat) (s1 : Int32) (s2 : Int32) (h : Hp) (v : vcX8_setup_103 E d a0 x4 s0 s1 s2 h Q) : GG E X 6 0 0 103 [some (.ref a0), none, none, none, some (.int x4), none] [.int s2, .int s1, .ref s0] h := by
  refine zg_iast (q := 104) C dX8_setup_103 rfl v.1 ?_
  have v := v.2 _ rfl
  refine zg_aload_n (q := 105) C dX8_setup_104 rfl rfl ?_
  refine zg_aload_n (q := 106) C dX8_setup_105 rfl rfl ?_
  refine zg_get (j := 21) (q := 109) C bX8 (by decide) lkX8_61 dX8_setup_106 rfl (okA.get v.1) ?_
  have v := v.2
  refine zg_iload (q := 111) C dX8_setup_109 rfl rfl ?_
  refine zg_cV2I (q := 114) C mX8_indexOf vX8_indexOf lmX8_199 rfl (bX8).1 v.1 (Nat.le_of_ble_eq_true rfl) ⟨Nat.le_refl _, Nat.le_refl _⟩ dX8_setup_111 rfl v.2 (fun r3 h2 v => ?_)
  refine zg_istore (q := 116) C dX8_setup_114 (by decide) rfl ?_
  refine zg_aload_n (q := 117) C dX8_setup_116 rfl rfl ?_
  refine zg_get (j := 14) (q := 120) C bX8 (by decide) lkX8_42 dX8_setup_117 rfl (okA.get v.1) ?_
  have v := v.2
  refine zg_iload (q := 122) C dX8_setup_120 rfl rfl ?_
  refine zg_zald (q := 123) C dX8_setup_122 rfl v.1 ?_
  have v := v.2
  refine zg_if_ne (t := 129) (q := 126) C dX8_setup_123 (by decide) rfl (fun c => ?_) (fun c => ?_)
  · have v := v.1 c
    refine zg_aload_n (q := 130) C dX8_setup_129 rfl rfl ?_
    refine zg_iload (q := 132) C dX8_setup_130 rfl rfl ?_
    refine zg_cV1V (q := 135) C mX8_begin vX8_begin lmX8_253 rfl (bX8).1 v.1 (Nat.le_of_ble_eq_true rfl) ⟨Nat.le_refl _, Nat.le_refl _⟩ dX8_setup_132 rfl v.2 (fun h4 v => ?_)
    refine zg_iload (q := 137) C dX8_setup_135 rfl rfl ?_
    exact zg_iret C rfl dX8_setup_137 ⟨Nat.le_refl _, Nat.le_refl _⟩ ⟨_, rfl, v⟩
  · have v := v.2 c
    refine zg_bipush (v := (-5)) (q := 128) C dX8_setup_126 (by decide) rfl ?_
    exact zg_iret C rfl dX8_setup_128 ⟨Nat.le_refl _, Nat.le_refl _⟩ ⟨_, rfl, v⟩
set_option maxRecDepth 100000 in
set_option maxHeartbeats 4000000 in
theorem zsX8_setup_85 {E : Wd} {X : Mx} {d : Nat} {Q : Int32 → Hp → Prop} (C : zz_C E X YX8_setup (d + 1) 0 0 (fun r h' => ∃ x : Int32, r = some (.int x) ∧ Q x h')) (a0 : Nat) (x3 : Int32) (x4 : Int32) (s0 : Nat) (s1 : Int32) (s2 : Int32) (h : Hp) (v : vcX8_setup_85 E d a0 x3 x4 s0 s1 s2 h Q) : GG E X 6 0 0 85 [some (.ref a0), none, none, some (.int x3), some (.int x4), none] [.int s2, .int s1, .ref s0] h := by
  refine zg_iast (q := 86) C dX8_setup_85 rfl v.1 ?_
  have v := v.2 _ rfl
  refine zg_aload_n (q := 87) C dX8_setup_86 rfl rfl ?_
  refine zg_get (j := 21) (q := 90) C bX8 (by decide) lkX8_61 dX8_setup_87 rfl (okA.get v.1) ?_
  have v := v.2
  refine zg_iconst (v := 2) (q := 91) C dX8_setup_90 (by decide) rfl ?_
  refine zg_iload_n (q := 92) C dX8_setup_91 rfl rfl ?_
  refine zg_if_ge (t := 102) (q := 95) C dX8_setup_92 (by decide) rfl (fun c => ?_) (fun c => ?_)
  · have v := v.1 c
    refine zg_iload_n (q := 103) C dX8_setup_102 rfl rfl ?_
    exact zg_mask [true, false, false, false, true, false] (zsX8_setup_103 C _ _ _ _ _ _ v)
  · have v := v.2 c
    refine zg_aload_n (q := 96) C dX8_setup_95 rfl rfl ?_
    refine zg_cV0I (q := 99) C mX8_squares vX8_squares lmX8_152 rfl (bX8).1 v.1 (Nat.le_of_ble_eq_true rfl) ⟨Nat.le_refl _, Nat.le_refl _⟩ dX8_setup_96 rfl v.2 (fun r3 h2 v => ?_)
    refine zg_goto (t := 103) C dX8_setup_99 (by decide) ?_
    exact zg_mask [true, false, false, false, true, false] (zsX8_setup_103 C _ _ _ _ _ _ v)
set_option maxRecDepth 100000 in
set_option maxHeartbeats 4000000 in
theorem zsX8_setup_67 {E : Wd} {X : Mx} {d : Nat} {Q : Int32 → Hp → Prop} (C : zz_C E X YX8_setup (d + 1) 0 0 (fun r h' => ∃ x : Int32, r = some (.int x) ∧ Q x h')) (a0 : Nat) (x2 : Int32) (x3 : Int32) (x4 : Int32) (s0 : Nat) (s1 : Int32) (s2 : Int32) (h : Hp) (v : vcX8_setup_67 E d a0 x2 x3 x4 s0 s1 s2 h Q) : GG E X 6 0 0 67 [some (.ref a0), none, some (.int x2), some (.int x3), some (.int x4), none] [.int s2, .int s1, .ref s0] h := by
  refine zg_iast (q := 68) C dX8_setup_67 rfl v.1 ?_
  have v := v.2 _ rfl
  refine zg_aload_n (q := 69) C dX8_setup_68 rfl rfl ?_
  refine zg_get (j := 21) (q := 72) C bX8 (by decide) lkX8_61 dX8_setup_69 rfl (okA.get v.1) ?_
  have v := v.2
  refine zg_iconst (v := 1) (q := 73) C dX8_setup_72 (by decide) rfl ?_
  refine zg_iload_n (q := 74) C dX8_setup_73 rfl rfl ?_
  refine zg_if_ge (t := 84) (q := 77) C dX8_setup_74 (by decide) rfl (fun c => ?_) (fun c => ?_)
  · have v := v.1 c
    refine zg_iload_n (q := 85) C dX8_setup_84 rfl rfl ?_
    exact zg_mask [true, false, false, true, true, false] (zsX8_setup_85 C _ _ _ _ _ _ _ v)
  · have v := v.2 c
    refine zg_aload_n (q := 78) C dX8_setup_77 rfl rfl ?_
    refine zg_cV0I (q := 81) C mX8_squares vX8_squares lmX8_152 rfl (bX8).1 v.1 (Nat.le_of_ble_eq_true rfl) ⟨Nat.le_refl _, Nat.le_refl _⟩ dX8_setup_78 rfl v.2 (fun r3 h2 v => ?_)
    refine zg_goto (t := 85) C dX8_setup_81 (by decide) ?_
    exact zg_mask [true, false, false, true, true, false] (zsX8_setup_85 C _ _ _ _ _ _ _ v)
set_option maxRecDepth 100000 in
set_option maxHeartbeats 4000000 in
theorem zsX8_setup_0 {E : Wd} {X : Mx} {d : Nat} {Q : Int32 → Hp → Prop} (C : zz_C E X YX8_setup (d + 1) 0 0 (fun r h' => ∃ x : Int32, r = some (.int x) ∧ Q x h')) (a0 : Nat) (x1 : Int32) (x2 : Int32) (x3 : Int32) (x4 : Int32) (h : Hp) (v : vcX8_setup_0 E d a0 x1 x2 x3 x4 h Q) : GG E X 6 0 0 0 [some (.ref a0), some (.int x1), some (.int x2), some (.int x3), some (.int x4), none] [] h := by
  refine zg_aload_n (q := 1) C dX8_setup_0 rfl rfl ?_
  refine zg_get (j := 7) (q := 4) C bX8 (by decide) lkX8_146 dX8_setup_1 rfl (okI.get v.1) ?_
  have v := v.2
  refine zg_if_ne (t := 10) (q := 7) C dX8_setup_4 (by decide) rfl (fun c => ?_) (fun c => ?_)
  · have v := v.1 c
    refine zg_iload (q := 12) C dX8_setup_10 rfl rfl ?_
    refine zg_iconst (v := 0) (q := 13) C dX8_setup_12 (by decide) rfl ?_
    refine zg_iconst (v := 1) (q := 14) C dX8_setup_13 (by decide) rfl ?_
    refine zg_cS3I (q := 17) C mX8_isBetween tX8_isBetween lmX8_86 rfl (Nat.le_of_ble_eq_true rfl) ⟨Nat.le_refl _, Nat.le_refl _⟩ dX8_setup_14 rfl v (fun r2 h1 v => ?_)
    refine zg_if_eq (t := 47) (q := 20) C dX8_setup_17 (by decide) rfl (fun c => ?_) (fun c => ?_)
    · have v := v.1 c
      refine zg_bipush (v := (-2)) (q := 49) C dX8_setup_47 (by decide) rfl ?_
      exact zg_iret C rfl dX8_setup_49 ⟨Nat.le_refl _, Nat.le_refl _⟩ ⟨_, rfl, v⟩
    · have v := v.2 c
      refine zg_aload_n (q := 21) C dX8_setup_20 rfl rfl ?_
      refine zg_iconst (v := 0) (q := 22) C dX8_setup_21 (by decide) rfl ?_
      refine zg_iload_n (q := 23) C dX8_setup_22 rfl rfl ?_
      refine zg_cV2I (q := 26) C mX8_isPlace vX8_isPlace lmX8_250 rfl (bX8).1 v.1 (Nat.le_of_ble_eq_true rfl) ⟨Nat.le_refl _, Nat.le_refl _⟩ dX8_setup_23 rfl v.2 (fun r4 h3 v => ?_)
      refine zg_if_eq (t := 47) (q := 29) C dX8_setup_26 (by decide) rfl (fun c => ?_) (fun c => ?_)
      · have v := v.1 c
        refine zg_bipush (v := (-2)) (q := 49) C dX8_setup_47 (by decide) rfl ?_
        exact zg_iret C rfl dX8_setup_49 ⟨Nat.le_refl _, Nat.le_refl _⟩ ⟨_, rfl, v⟩
      · have v := v.2 c
        refine zg_aload_n (q := 30) C dX8_setup_29 rfl rfl ?_
        refine zg_iconst (v := 1) (q := 31) C dX8_setup_30 (by decide) rfl ?_
        refine zg_iload_n (q := 32) C dX8_setup_31 rfl rfl ?_
        refine zg_cV2I (q := 35) C mX8_isPlace vX8_isPlace lmX8_250 rfl (bX8).1 v.1 (Nat.le_of_ble_eq_true rfl) ⟨Nat.le_refl _, Nat.le_refl _⟩ dX8_setup_32 rfl v.2 (fun r6 h5 v => ?_)
        refine zg_if_eq (t := 47) (q := 38) C dX8_setup_35 (by decide) rfl (fun c => ?_) (fun c => ?_)
        · have v := v.1 c
          refine zg_bipush (v := (-2)) (q := 49) C dX8_setup_47 (by decide) rfl ?_
          exact zg_iret C rfl dX8_setup_49 ⟨Nat.le_refl _, Nat.le_refl _⟩ ⟨_, rfl, v⟩
        · have v := v.2 c
          refine zg_aload_n (q := 39) C dX8_setup_38 rfl rfl ?_
          refine zg_iconst (v := 2) (q := 40) C dX8_setup_39 (by decide) rfl ?_
          refine zg_iload_n (q := 41) C dX8_setup_40 rfl rfl ?_
          refine zg_cV2I (q := 44) C mX8_isPlace vX8_isPlace lmX8_250 rfl (bX8).1 v.1 (Nat.le_of_ble_eq_true rfl) ⟨Nat.le_refl _, Nat.le_refl _⟩ dX8_setup_41 rfl v.2 (fun r8 h7 v => ?_)
          refine zg_if_ne (t := 50) (q := 47) C dX8_setup_44 (by decide) rfl (fun c => ?_) (fun c => ?_)
          · have v := v.1 c
            refine zg_aload_n (q := 51) C dX8_setup_50 rfl rfl ?_
            refine zg_get (j := 21) (q := 54) C bX8 (by decide) lkX8_61 dX8_setup_51 rfl (okA.get v.1) ?_
            have v := v.2
            refine zg_iconst (v := 0) (q := 55) C dX8_setup_54 (by decide) rfl ?_
            refine zg_iload_n (q := 56) C dX8_setup_55 rfl rfl ?_
            refine zg_if_ge (t := 66) (q := 59) C dX8_setup_56 (by decide) rfl (fun c => ?_) (fun c => ?_)
            · have v := v.1 c
              refine zg_iload_n (q := 67) C dX8_setup_66 rfl rfl ?_
              exact zg_mask [true, false, true, true, true, false] (zsX8_setup_67 C _ _ _ _ _ _ _ _ v)
            · have v := v.2 c
              refine zg_aload_n (q := 60) C dX8_setup_59 rfl rfl ?_
              refine zg_cV0I (q := 63) C mX8_squares vX8_squares lmX8_152 rfl (bX8).1 v.1 (Nat.le_of_ble_eq_true rfl) ⟨Nat.le_refl _, Nat.le_refl _⟩ dX8_setup_60 rfl v.2 (fun r10 h9 v => ?_)
              refine zg_goto (t := 67) C dX8_setup_63 (by decide) ?_
              exact zg_mask [true, false, true, true, true, false] (zsX8_setup_67 C _ _ _ _ _ _ _ _ v)
          · have v := v.2 c
            refine zg_bipush (v := (-2)) (q := 49) C dX8_setup_47 (by decide) rfl ?_
            exact zg_iret C rfl dX8_setup_49 ⟨Nat.le_refl _, Nat.le_refl _⟩ ⟨_, rfl, v⟩
  · have v := v.2 c
    refine zg_bipush (v := (-3)) (q := 9) C dX8_setup_7 (by decide) rfl ?_
    exact zg_iret C rfl dX8_setup_9 ⟨Nat.le_refl _, Nat.le_refl _⟩ ⟨_, rfl, v⟩
theorem rnX8_setup {E : Wd} {d : Nat} {a0 : Nat} {x1 : Int32} {x2 : Int32} {x3 : Int32} {x4 : Int32} {h : Hp} {Q : Int32 → Hp → Prop} (k : vcX8_setup_0 E d a0 x1 x2 x3 x4 h Q) : OkI E YX8_setup (d + 1) [.ref a0, .int x1, .int x2, .int x3, .int x4] h Q :=
  zz_body2 (r := 1) mX8_setup (zc_a (zc_i (zc_i (zc_i (zc_i zc_n))))) (Nat.le_of_ble_eq_true rfl) (fun X C => zsX8_setup_0 C a0 x1 x2 x3 x4 h k)
def vcX8_load_0 (E : Wd) (d : Nat) (a0 : Nat) (x1 : Int32) (h : Hp) (Q : Int32 → Hp → Prop) : Prop :=
  okI h a0 8 7 ∧ (¬ (fI h a0 7) = (0 : Int32) → okI h a0 8 20 ∧ OkI E YX8_isBetween d [.int x1, .int 0, .int ((fI h a0 20) - (1 : Int32))] h (fun r2 h1 => (r2 = (0 : Int32) → Q ((-5)) h1) ∧ (¬ r2 = (0 : Int32) → okA h1 a0 8 14 ∧ okR E h1 (fA h1 a0 14) 1 x1 ∧ (¬ (gA h1 (fA h1 a0 14) x1) = (0 : Int32) → isO h1 a0 8 ∧ OkV E YX8_begin d [.ref a0, .int x1] h1 (fun h3 => (¬ (2 : Int32) = (0 : Int32)) ∧ Q (x1 - x1 / (2 : Int32) * (2 : Int32)) h3)) ∧ ((gA h1 (fA h1 a0 14) x1) = (0 : Int32) → Q ((-5)) h1)))) ∧ ((fI h a0 7) = (0 : Int32) → Q ((-3)) h)
set_option maxRecDepth 100000 in
set_option maxHeartbeats 4000000 in
theorem zsX8_load_0 {E : Wd} {X : Mx} {d : Nat} {Q : Int32 → Hp → Prop} (C : zz_C E X YX8_load (d + 1) 0 0 (fun r h' => ∃ x : Int32, r = some (.int x) ∧ Q x h')) (a0 : Nat) (x1 : Int32) (h : Hp) (v : vcX8_load_0 E d a0 x1 h Q) : GG E X 2 0 0 0 [some (.ref a0), some (.int x1)] [] h := by
  refine zg_aload_n (q := 1) C dX8_load_0 rfl rfl ?_
  refine zg_get (j := 7) (q := 4) C bX8 (by decide) lkX8_146 dX8_load_1 rfl (okI.get v.1) ?_
  have v := v.2
  refine zg_if_ne (t := 10) (q := 7) C dX8_load_4 (by decide) rfl (fun c => ?_) (fun c => ?_)
  · have v := v.1 c
    refine zg_iload_n (q := 11) C dX8_load_10 rfl rfl ?_
    refine zg_iconst (v := 0) (q := 12) C dX8_load_11 (by decide) rfl ?_
    refine zg_aload_n (q := 13) C dX8_load_12 rfl rfl ?_
    refine zg_get (j := 20) (q := 16) C bX8 (by decide) lkX8_213 dX8_load_13 rfl (okI.get v.1) ?_
    have v := v.2
    refine zg_iconst (v := 1) (q := 17) C dX8_load_16 (by decide) rfl ?_
    refine zg_isub (q := 18) C dX8_load_17 rfl ?_
    refine zg_cS3I (q := 21) C mX8_isBetween tX8_isBetween lmX8_86 rfl (Nat.le_of_ble_eq_true rfl) ⟨Nat.le_refl _, Nat.le_refl _⟩ dX8_load_18 rfl v (fun r2 h1 v => ?_)
    refine zg_if_eq (t := 33) (q := 24) C dX8_load_21 (by decide) rfl (fun c => ?_) (fun c => ?_)
    · have v := v.1 c
      refine zg_bipush (v := (-5)) (q := 35) C dX8_load_33 (by decide) rfl ?_
      exact zg_iret C rfl dX8_load_35 ⟨Nat.le_refl _, Nat.le_refl _⟩ ⟨_, rfl, v⟩
    · have v := v.2 c
      refine zg_aload_n (q := 25) C dX8_load_24 rfl rfl ?_
      refine zg_get (j := 14) (q := 28) C bX8 (by decide) lkX8_42 dX8_load_25 rfl (okA.get v.1) ?_
      have v := v.2
      refine zg_iload_n (q := 29) C dX8_load_28 rfl rfl ?_
      refine zg_zald (q := 30) C dX8_load_29 rfl v.1 ?_
      have v := v.2
      refine zg_if_ne (t := 36) (q := 33) C dX8_load_30 (by decide) rfl (fun c => ?_) (fun c => ?_)
      · have v := v.1 c
        refine zg_aload_n (q := 37) C dX8_load_36 rfl rfl ?_
        refine zg_iload_n (q := 38) C dX8_load_37 rfl rfl ?_
        refine zg_cV1V (q := 41) C mX8_begin vX8_begin lmX8_253 rfl (bX8).1 v.1 (Nat.le_of_ble_eq_true rfl) ⟨Nat.le_refl _, Nat.le_refl _⟩ dX8_load_38 rfl v.2 (fun h3 v => ?_)
        refine zg_iload_n (q := 42) C dX8_load_41 rfl rfl ?_
        refine zg_iconst (v := 2) (q := 43) C dX8_load_42 (by decide) rfl ?_
        refine zg_irem (q := 44) C dX8_load_43 v.1 rfl ?_
        have v := v.2
        exact zg_iret C rfl dX8_load_44 ⟨Nat.le_refl _, Nat.le_refl _⟩ ⟨_, rfl, v⟩
      · have v := v.2 c
        refine zg_bipush (v := (-5)) (q := 35) C dX8_load_33 (by decide) rfl ?_
        exact zg_iret C rfl dX8_load_35 ⟨Nat.le_refl _, Nat.le_refl _⟩ ⟨_, rfl, v⟩
  · have v := v.2 c
    refine zg_bipush (v := (-3)) (q := 9) C dX8_load_7 (by decide) rfl ?_
    exact zg_iret C rfl dX8_load_9 ⟨Nat.le_refl _, Nat.le_refl _⟩ ⟨_, rfl, v⟩
theorem rnX8_load {E : Wd} {d : Nat} {a0 : Nat} {x1 : Int32} {h : Hp} {Q : Int32 → Hp → Prop} (k : vcX8_load_0 E d a0 x1 h Q) : OkI E YX8_load (d + 1) [.ref a0, .int x1] h Q :=
  zz_body2 (r := 0) mX8_load (zc_a (zc_i zc_n)) (Nat.le_of_ble_eq_true rfl) (fun X C => zsX8_load_0 C a0 x1 h k)
def vcX8_board_0 (E : Wd) (d : Nat) (a0 : Nat) (x1 : Int32) (h : Hp) (Q : Int32 → Hp → Prop) : Prop :=
  isO h a0 8 ∧ OkI E YX8_isPlaying d [.ref a0] h (fun r2 h1 => (¬ r2 = (0 : Int32) → isO h1 a0 8 ∧ OkI E YX8_here d [.ref a0] h1 (fun r4 h3 => isO h3 a0 8 ∧ OkV E YX8_findMoves d [.ref a0, .int 0, .int r4] h3 (fun h5 => okA h5 a0 8 4 ∧ okR E h5 (fA h5 a0 4) 0 2 ∧ OkI E YX8_isBetween d [.int x1, .int 10, .int ((9 : Int32) + (gA h5 (fA h5 a0 4) 2))] h5 (fun r7 h6 => (r7 = (0 : Int32) → (x1 = (0 : Int32) → Q r4 h6) ∧ (¬ x1 = (0 : Int32) → (x1 = (1 : Int32) → (¬ (2 : Int32) = (0 : Int32)) ∧ Q (r4 - r4 / (2 : Int32) * (2 : Int32)) h6) ∧ (¬ x1 = (1 : Int32) → (x1 = (2 : Int32) → okA h6 a0 8 17 ∧ okR E h6 (fA h6 a0 17) 0 r4 ∧ Q (gA h6 (fA h6 a0 17) r4) h6) ∧ (¬ x1 = (2 : Int32) → (x1 = (3 : Int32) → okA h6 a0 8 18 ∧ okR E h6 (fA h6 a0 18) 0 r4 ∧ Q (gA h6 (fA h6 a0 18) r4) h6) ∧ (¬ x1 = (3 : Int32) → (x1 = (4 : Int32) → okA h6 a0 8 19 ∧ okR E h6 (fA h6 a0 19) 0 r4 ∧ Q (gA h6 (fA h6 a0 19) r4) h6) ∧ (¬ x1 = (4 : Int32) → (x1 = (5 : Int32) → isO h6 a0 8 ∧ OkI E YX8_verdict d [.ref a0, .int r4] h6 (fun r9 h8 => Q r9 h8)) ∧ (¬ x1 = (5 : Int32) → (x1 = (6 : Int32) → okA h6 a0 8 8 ∧ okW E h6 (fA h6 a0 8) 0 ∧ (¬ (2 : Int32) = (0 : Int32)) ∧ isO h6 a0 8 ∧ OkI E YX8_isInCheck d [.ref a0, .ref (gW h6 (fA h6 a0 8) 0), .int (r4 - r4 / (2 : Int32) * (2 : Int32))] h6 (fun r11 h10 => (r11 = (0 : Int32) → Q 0 h10) ∧ (¬ r11 = (0 : Int32) → Q 1 h10))) ∧ (¬ x1 = (6 : Int32) → (x1 = (7 : Int32) → okA h6 a0 8 9 ∧ okR E h6 (fA h6 a0 9) 0 0 ∧ Q (gA h6 (fA h6 a0 9) 0) h6) ∧ (¬ x1 = (7 : Int32) → (x1 = (8 : Int32) → isO h6 a0 8 ∧ OkI E YX8_canonical d [.ref a0, .int r4] h6 (fun r13 h12 => Q r13 h12)) ∧ (¬ x1 = (8 : Int32) → (x1 = (9 : Int32) → isO h6 a0 8 ∧ OkI E YX8_countImages d [.ref a0, .int r4] h6 (fun r15 h14 => Q r15 h14)) ∧ (¬ x1 = (9 : Int32) → Q ((-1)) h6))))))))))) ∧ (¬ r7 = (0 : Int32) → okA h6 a0 8 8 ∧ okW E h6 (fA h6 a0 8) 0 ∧ okR E h6 (gW h6 (fA h6 a0 8) 0) 0 (x1 - (10 : Int32)) ∧ isO h6 a0 8 ∧ OkI E YX8_squares d [.ref a0] h6 (fun r17 h16 => (r17 ≤ (gA h6 (gW h6 (fA h6 a0 8) 0) (x1 - (10 : Int32))) → Q ((-5)) h16) ∧ (¬ r17 ≤ (gA h6 (gW h6 (fA h6 a0 8) 0) (x1 - (10 : Int32))) → okA h16 a0 8 8 ∧ okW E h16 (fA h16 a0 8) 0 ∧ okR E h16 (gW h16 (fA h16 a0 8) 0) 0 (x1 - (10 : Int32)) ∧ Q (gA h16 (gW h16 (fA h16 a0 8) 0) (x1 - (10 : Int32))) h16))))))) ∧ (r2 = (0 : Int32) → Q ((-3)) h1))
set_option maxRecDepth 100000 in
set_option maxHeartbeats 4000000 in
theorem zsX8_board_0 {E : Wd} {X : Mx} {d : Nat} {Q : Int32 → Hp → Prop} (C : zz_C E X YX8_board (d + 1) 0 0 (fun r h' => ∃ x : Int32, r = some (.int x) ∧ Q x h')) (a0 : Nat) (x1 : Int32) (h : Hp) (v : vcX8_board_0 E d a0 x1 h Q) : GG E X 3 0 0 0 [some (.ref a0), some (.int x1), none] [] h := by
  refine zg_aload_n (q := 1) C dX8_board_0 rfl rfl ?_
  refine zg_cV0I (q := 4) C mX8_isPlaying vX8_isPlaying lmX8_257 rfl (bX8).1 v.1 (Nat.le_of_ble_eq_true rfl) ⟨Nat.le_refl _, Nat.le_refl _⟩ dX8_board_1 rfl v.2 (fun r2 h1 v => ?_)
  refine zg_if_ne (t := 10) (q := 7) C dX8_board_4 (by decide) rfl (fun c => ?_) (fun c => ?_)
  · have v := v.1 c
    refine zg_aload_n (q := 11) C dX8_board_10 rfl rfl ?_
    refine zg_cV0I (q := 14) C mX8_here vX8_here lmX8_260 rfl (bX8).1 v.1 (Nat.le_of_ble_eq_true rfl) ⟨Nat.le_refl _, Nat.le_refl _⟩ dX8_board_11 rfl v.2 (fun r4 h3 v => ?_)
    refine zg_istore_n (q := 15) C dX8_board_14 (by decide) rfl ?_
    refine zg_aload_n (q := 16) C dX8_board_15 rfl rfl ?_
    refine zg_iconst (v := 0) (q := 17) C dX8_board_16 (by decide) rfl ?_
    refine zg_iload_n (q := 18) C dX8_board_17 rfl rfl ?_
    refine zg_cV2V (q := 21) C mX8_findMoves vX8_findMoves lmX8_209 rfl (bX8).1 v.1 (Nat.le_of_ble_eq_true rfl) ⟨Nat.le_refl _, Nat.le_refl _⟩ dX8_board_18 rfl v.2 (fun h5 v => ?_)
    refine zg_iload_n (q := 22) C dX8_board_21 rfl rfl ?_
    refine zg_bipush (v := 10) (q := 24) C dX8_board_22 (by decide) rfl ?_
    refine zg_bipush (v := 9) (q := 26) C dX8_board_24 (by decide) rfl ?_
    refine zg_aload_n (q := 27) C dX8_board_26 rfl rfl ?_
    refine zg_get (j := 4) (q := 30) C bX8 (by decide) lkX8_13 dX8_board_27 rfl (okA.get v.1) ?_
    have v := v.2
    refine zg_iconst (v := 2) (q := 31) C dX8_board_30 (by decide) rfl ?_
    refine zg_iald (q := 32) C dX8_board_31 rfl v.1 ?_
    have v := v.2
    refine zg_iadd (q := 33) C dX8_board_32 rfl ?_
    refine zg_cS3I (q := 36) C mX8_isBetween tX8_isBetween lmX8_86 rfl (Nat.le_of_ble_eq_true rfl) ⟨Nat.le_refl _, Nat.le_refl _⟩ dX8_board_33 rfl v (fun r7 h6 v => ?_)
    refine zg_if_eq (t := 74) (q := 39) C dX8_board_36 (by decide) rfl (fun c => ?_) (fun c => ?_)
    · have v := v.1 c
      refine zg_iload_n (q := 75) C dX8_board_74 rfl rfl ?_
      by_cases c0 : x1 = (0 : Int32)
      · have v := v.1 c0
        refine zg_tabC (t := 128) (off := 53) C dX8_board_75 c0 (by decide) (by decide) (by decide) (by decide) ?_
        refine zg_iload_n (q := 129) C dX8_board_128 rfl rfl ?_
        exact zg_iret C rfl dX8_board_129 ⟨Nat.le_refl _, Nat.le_refl _⟩ ⟨_, rfl, v⟩
      · have v := v.2 c0
        by_cases c1 : x1 = (1 : Int32)
        · have v := v.1 c1
          refine zg_tabC (t := 130) (off := 55) C dX8_board_75 c1 (by decide) (by decide) (by decide) (by decide) ?_
          refine zg_iload_n (q := 131) C dX8_board_130 rfl rfl ?_
          refine zg_iconst (v := 2) (q := 132) C dX8_board_131 (by decide) rfl ?_
          refine zg_irem (q := 133) C dX8_board_132 v.1 rfl ?_
          have v := v.2
          exact zg_iret C rfl dX8_board_133 ⟨Nat.le_refl _, Nat.le_refl _⟩ ⟨_, rfl, v⟩
        · have v := v.2 c1
          by_cases c2 : x1 = (2 : Int32)
          · have v := v.1 c2
            refine zg_tabC (t := 134) (off := 59) C dX8_board_75 c2 (by decide) (by decide) (by decide) (by decide) ?_
            refine zg_aload_n (q := 135) C dX8_board_134 rfl rfl ?_
            refine zg_get (j := 17) (q := 138) C bX8 (by decide) lkX8_52 dX8_board_135 rfl (okA.get v.1) ?_
            have v := v.2
            refine zg_iload_n (q := 139) C dX8_board_138 rfl rfl ?_
            refine zg_iald (q := 140) C dX8_board_139 rfl v.1 ?_
            have v := v.2
            exact zg_iret C rfl dX8_board_140 ⟨Nat.le_refl _, Nat.le_refl _⟩ ⟨_, rfl, v⟩
          · have v := v.2 c2
            by_cases c3 : x1 = (3 : Int32)
            · have v := v.1 c3
              refine zg_tabC (t := 141) (off := 66) C dX8_board_75 c3 (by decide) (by decide) (by decide) (by decide) ?_
              refine zg_aload_n (q := 142) C dX8_board_141 rfl rfl ?_
              refine zg_get (j := 18) (q := 145) C bX8 (by decide) lkX8_55 dX8_board_142 rfl (okA.get v.1) ?_
              have v := v.2
              refine zg_iload_n (q := 146) C dX8_board_145 rfl rfl ?_
              refine zg_iald (q := 147) C dX8_board_146 rfl v.1 ?_
              have v := v.2
              exact zg_iret C rfl dX8_board_147 ⟨Nat.le_refl _, Nat.le_refl _⟩ ⟨_, rfl, v⟩
            · have v := v.2 c3
              by_cases c4 : x1 = (4 : Int32)
              · have v := v.1 c4
                refine zg_tabC (t := 148) (off := 73) C dX8_board_75 c4 (by decide) (by decide) (by decide) (by decide) ?_
                refine zg_aload_n (q := 149) C dX8_board_148 rfl rfl ?_
                refine zg_get (j := 19) (q := 152) C bX8 (by decide) lkX8_58 dX8_board_149 rfl (okA.get v.1) ?_
                have v := v.2
                refine zg_iload_n (q := 153) C dX8_board_152 rfl rfl ?_
                refine zg_iald (q := 154) C dX8_board_153 rfl v.1 ?_
                have v := v.2
                exact zg_iret C rfl dX8_board_154 ⟨Nat.le_refl _, Nat.le_refl _⟩ ⟨_, rfl, v⟩
              · have v := v.2 c4
                by_cases c5 : x1 = (5 : Int32)
                · have v := v.1 c5
                  refine zg_tabC (t := 155) (off := 80) C dX8_board_75 c5 (by decide) (by decide) (by decide) (by decide) ?_
                  refine zg_aload_n (q := 156) C dX8_board_155 rfl rfl ?_
                  refine zg_iload_n (q := 157) C dX8_board_156 rfl rfl ?_
                  refine zg_cV1I (q := 160) C mX8_verdict vX8_verdict lmX8_263 rfl (bX8).1 v.1 (Nat.le_of_ble_eq_true rfl) ⟨Nat.le_refl _, Nat.le_refl _⟩ dX8_board_157 rfl v.2 (fun r9 h8 v => ?_)
                  exact zg_iret C rfl dX8_board_160 ⟨Nat.le_refl _, Nat.le_refl _⟩ ⟨_, rfl, v⟩
                · have v := v.2 c5
                  by_cases c6 : x1 = (6 : Int32)
                  · have v := v.1 c6
                    refine zg_tabC (t := 161) (off := 86) C dX8_board_75 c6 (by decide) (by decide) (by decide) (by decide) ?_
                    refine zg_aload_n (q := 162) C dX8_board_161 rfl rfl ?_
                    refine zg_aload_n (q := 163) C dX8_board_162 rfl rfl ?_
                    refine zg_get (j := 8) (q := 166) C bX8 (by decide) lkX8_24 dX8_board_163 rfl (okA.get v.1) ?_
                    have v := v.2
                    refine zg_iconst (v := 0) (q := 167) C dX8_board_166 (by decide) rfl ?_
                    refine zg_aald (q := 168) C dX8_board_167 rfl v.1 ?_
                    have v := v.2
                    refine zg_iload_n (q := 169) C dX8_board_168 rfl rfl ?_
                    refine zg_iconst (v := 2) (q := 170) C dX8_board_169 (by decide) rfl ?_
                    refine zg_irem (q := 171) C dX8_board_170 v.1 rfl ?_
                    have v := v.2
                    refine zg_cV2I (q := 174) C mX8_isInCheck vX8_isInCheck lmX8_191 rfl (bX8).1 v.1 (Nat.le_of_ble_eq_true rfl) ⟨Nat.le_refl _, Nat.le_refl _⟩ dX8_board_171 rfl v.2 (fun r11 h10 v => ?_)
                    refine zg_if_eq (t := 181) (q := 177) C dX8_board_174 (by decide) rfl (fun c => ?_) (fun c => ?_)
                    · have v := v.1 c
                      refine zg_iconst (v := 0) (q := 182) C dX8_board_181 (by decide) rfl ?_
                      exact zg_iret C rfl dX8_board_182 ⟨Nat.le_refl _, Nat.le_refl _⟩ ⟨_, rfl, v⟩
                    · have v := v.2 c
                      refine zg_iconst (v := 1) (q := 178) C dX8_board_177 (by decide) rfl ?_
                      refine zg_goto (t := 182) C dX8_board_178 (by decide) ?_
                      exact zg_iret C rfl dX8_board_182 ⟨Nat.le_refl _, Nat.le_refl _⟩ ⟨_, rfl, v⟩
                  · have v := v.2 c6
                    by_cases c7 : x1 = (7 : Int32)
                    · have v := v.1 c7
                      refine zg_tabC (t := 183) (off := 108) C dX8_board_75 c7 (by decide) (by decide) (by decide) (by decide) ?_
                      refine zg_aload_n (q := 184) C dX8_board_183 rfl rfl ?_
                      refine zg_get (j := 9) (q := 187) C bX8 (by decide) lkX8_27 dX8_board_184 rfl (okA.get v.1) ?_
                      have v := v.2
                      refine zg_iconst (v := 0) (q := 188) C dX8_board_187 (by decide) rfl ?_
                      refine zg_iald (q := 189) C dX8_board_188 rfl v.1 ?_
                      have v := v.2
                      exact zg_iret C rfl dX8_board_189 ⟨Nat.le_refl _, Nat.le_refl _⟩ ⟨_, rfl, v⟩
                    · have v := v.2 c7
                      by_cases c8 : x1 = (8 : Int32)
                      · have v := v.1 c8
                        refine zg_tabC (t := 190) (off := 115) C dX8_board_75 c8 (by decide) (by decide) (by decide) (by decide) ?_
                        refine zg_aload_n (q := 191) C dX8_board_190 rfl rfl ?_
                        refine zg_iload_n (q := 192) C dX8_board_191 rfl rfl ?_
                        refine zg_cV1I (q := 195) C mX8_canonical vX8_canonical lmX8_266 rfl (bX8).1 v.1 (Nat.le_of_ble_eq_true rfl) ⟨Nat.le_refl _, Nat.le_refl _⟩ dX8_board_192 rfl v.2 (fun r13 h12 v => ?_)
                        exact zg_iret C rfl dX8_board_195 ⟨Nat.le_refl _, Nat.le_refl _⟩ ⟨_, rfl, v⟩
                      · have v := v.2 c8
                        by_cases c9 : x1 = (9 : Int32)
                        · have v := v.1 c9
                          refine zg_tabC (t := 196) (off := 121) C dX8_board_75 c9 (by decide) (by decide) (by decide) (by decide) ?_
                          refine zg_aload_n (q := 197) C dX8_board_196 rfl rfl ?_
                          refine zg_iload_n (q := 198) C dX8_board_197 rfl rfl ?_
                          refine zg_cV1I (q := 201) C mX8_countImages vX8_countImages lmX8_269 rfl (bX8).1 v.1 (Nat.le_of_ble_eq_true rfl) ⟨Nat.le_refl _, Nat.le_refl _⟩ dX8_board_198 rfl v.2 (fun r15 h14 v => ?_)
                          exact zg_iret C rfl dX8_board_201 ⟨Nat.le_refl _, Nat.le_refl _⟩ ⟨_, rfl, v⟩
                        · have v := v.2 c9
                          refine zg_tabD (t := 202) (cnt := 10) C dX8_board_75 (fun j hj => by match j, hj with | 0, _ => exact c0 | 1, _ => exact c1 | 2, _ => exact c2 | 3, _ => exact c3 | 4, _ => exact c4 | 5, _ => exact c5 | 6, _ => exact c6 | 7, _ => exact c7 | 8, _ => exact c8 | 9, _ => exact c9) rfl (by decide) ?_
                          refine zg_iconst (v := (-1)) (q := 203) C dX8_board_202 (by decide) rfl ?_
                          exact zg_iret C rfl dX8_board_203 ⟨Nat.le_refl _, Nat.le_refl _⟩ ⟨_, rfl, v⟩
    · have v := v.2 c
      refine zg_aload_n (q := 40) C dX8_board_39 rfl rfl ?_
      refine zg_get (j := 8) (q := 43) C bX8 (by decide) lkX8_24 dX8_board_40 rfl (okA.get v.1) ?_
      have v := v.2
      refine zg_iconst (v := 0) (q := 44) C dX8_board_43 (by decide) rfl ?_
      refine zg_aald (q := 45) C dX8_board_44 rfl v.1 ?_
      have v := v.2
      refine zg_iload_n (q := 46) C dX8_board_45 rfl rfl ?_
      refine zg_bipush (v := 10) (q := 48) C dX8_board_46 (by decide) rfl ?_
      refine zg_isub (q := 49) C dX8_board_48 rfl ?_
      refine zg_iald (q := 50) C dX8_board_49 rfl v.1 ?_
      have v := v.2
      refine zg_aload_n (q := 51) C dX8_board_50 rfl rfl ?_
      refine zg_cV0I (q := 54) C mX8_squares vX8_squares lmX8_152 rfl (bX8).1 v.1 (Nat.le_of_ble_eq_true rfl) ⟨Nat.le_refl _, Nat.le_refl _⟩ dX8_board_51 rfl v.2 (fun r17 h16 v => ?_)
      refine zg_icmp_ge (t := 71) (q := 57) C dX8_board_54 (by decide) rfl (fun c => ?_) (fun c => ?_)
      · have v := v.1 c
        refine zg_bipush (v := (-5)) (q := 73) C dX8_board_71 (by decide) rfl ?_
        exact zg_iret C rfl dX8_board_73 ⟨Nat.le_refl _, Nat.le_refl _⟩ ⟨_, rfl, v⟩
      · have v := v.2 c
        refine zg_aload_n (q := 58) C dX8_board_57 rfl rfl ?_
        refine zg_get (j := 8) (q := 61) C bX8 (by decide) lkX8_24 dX8_board_58 rfl (okA.get v.1) ?_
        have v := v.2
        refine zg_iconst (v := 0) (q := 62) C dX8_board_61 (by decide) rfl ?_
        refine zg_aald (q := 63) C dX8_board_62 rfl v.1 ?_
        have v := v.2
        refine zg_iload_n (q := 64) C dX8_board_63 rfl rfl ?_
        refine zg_bipush (v := 10) (q := 66) C dX8_board_64 (by decide) rfl ?_
        refine zg_isub (q := 67) C dX8_board_66 rfl ?_
        refine zg_iald (q := 68) C dX8_board_67 rfl v.1 ?_
        have v := v.2
        refine zg_goto (t := 73) C dX8_board_68 (by decide) ?_
        exact zg_iret C rfl dX8_board_73 ⟨Nat.le_refl _, Nat.le_refl _⟩ ⟨_, rfl, v⟩
  · have v := v.2 c
    refine zg_bipush (v := (-3)) (q := 9) C dX8_board_7 (by decide) rfl ?_
    exact zg_iret C rfl dX8_board_9 ⟨Nat.le_refl _, Nat.le_refl _⟩ ⟨_, rfl, v⟩
theorem rnX8_board {E : Wd} {d : Nat} {a0 : Nat} {x1 : Int32} {h : Hp} {Q : Int32 → Hp → Prop} (k : vcX8_board_0 E d a0 x1 h Q) : OkI E YX8_board (d + 1) [.ref a0, .int x1] h Q :=
  zz_body2 (r := 1) mX8_board (zc_a (zc_i zc_n)) (Nat.le_of_ble_eq_true rfl) (fun X C => zsX8_board_0 C a0 x1 h k)
def vcX8_move_0 (E : Wd) (d : Nat) (a0 : Nat) (x1 : Int32) (x2 : Int32) (h : Hp) (Q : Int32 → Hp → Prop) : Prop :=
  isO h a0 8 ∧ OkI E YX8_isPlaying d [.ref a0] h (fun r2 h1 => (¬ r2 = (0 : Int32) → isO h1 a0 8 ∧ OkI E YX8_here d [.ref a0] h1 (fun r4 h3 => isO h3 a0 8 ∧ OkV E YX8_findMoves d [.ref a0, .int 0, .int r4] h3 (fun h5 => okA h5 a0 8 9 ∧ okR E h5 (fA h5 a0 9) 0 0 ∧ OkI E YX8_isBetween d [.int x1, .int 0, .int ((gA h5 (fA h5 a0 9) 0) - (1 : Int32))] h5 (fun r7 h6 => (¬ r7 = (0 : Int32) → okA h6 a0 8 13 ∧ okW E h6 (fA h6 a0 13) 0 ∧ okR E h6 (gW h6 (fA h6 a0 13) 0) 0 x1 ∧ (x2 = (0 : Int32) → okA h6 a0 8 10 ∧ okW E h6 (fA h6 a0 10) 0 ∧ okR E h6 (gW h6 (fA h6 a0 10) 0) 0 x1 ∧ Q (gA h6 (gW h6 (fA h6 a0 10) 0) x1) h6) ∧ (¬ x2 = (0 : Int32) → (x2 = (1 : Int32) → okA h6 a0 8 11 ∧ okW E h6 (fA h6 a0 11) 0 ∧ okR E h6 (gW h6 (fA h6 a0 11) 0) 0 x1 ∧ Q (gA h6 (gW h6 (fA h6 a0 11) 0) x1) h6) ∧ (¬ x2 = (1 : Int32) → (x2 = (2 : Int32) → okA h6 a0 8 12 ∧ okW E h6 (fA h6 a0 12) 0 ∧ okR E h6 (gW h6 (fA h6 a0 12) 0) 0 x1 ∧ Q (gA h6 (gW h6 (fA h6 a0 12) 0) x1) h6) ∧ (¬ x2 = (2 : Int32) → (x2 = (3 : Int32) → okA h6 a0 8 17 ∧ okR E h6 (fA h6 a0 17) 0 (gA h6 (gW h6 (fA h6 a0 13) 0) x1) ∧ Q (gA h6 (fA h6 a0 17) (gA h6 (gW h6 (fA h6 a0 13) 0) x1)) h6) ∧ (¬ x2 = (3 : Int32) → (x2 = (4 : Int32) → okA h6 a0 8 18 ∧ okR E h6 (fA h6 a0 18) 0 (gA h6 (gW h6 (fA h6 a0 13) 0) x1) ∧ Q (gA h6 (fA h6 a0 18) (gA h6 (gW h6 (fA h6 a0 13) 0) x1)) h6) ∧ (¬ x2 = (4 : Int32) → (x2 = (5 : Int32) → okA h6 a0 8 19 ∧ okR E h6 (fA h6 a0 19) 0 (gA h6 (gW h6 (fA h6 a0 13) 0) x1) ∧ Q (gA h6 (fA h6 a0 19) (gA h6 (gW h6 (fA h6 a0 13) 0) x1)) h6) ∧ (¬ x2 = (5 : Int32) → (x2 = (6 : Int32) → Q (gA h6 (gW h6 (fA h6 a0 13) 0) x1) h6) ∧ (¬ x2 = (6 : Int32) → Q ((-1)) h6)))))))) ∧ (r7 = (0 : Int32) → Q ((-1)) h6))))) ∧ (r2 = (0 : Int32) → Q ((-3)) h1))
set_option maxRecDepth 100000 in
set_option maxHeartbeats 4000000 in
theorem zsX8_move_0 {E : Wd} {X : Mx} {d : Nat} {Q : Int32 → Hp → Prop} (C : zz_C E X YX8_move (d + 1) 0 0 (fun r h' => ∃ x : Int32, r = some (.int x) ∧ Q x h')) (a0 : Nat) (x1 : Int32) (x2 : Int32) (h : Hp) (v : vcX8_move_0 E d a0 x1 x2 h Q) : GG E X 4 0 0 0 [some (.ref a0), some (.int x1), some (.int x2), none] [] h := by
  refine zg_aload_n (q := 1) C dX8_move_0 rfl rfl ?_
  refine zg_cV0I (q := 4) C mX8_isPlaying vX8_isPlaying lmX8_257 rfl (bX8).1 v.1 (Nat.le_of_ble_eq_true rfl) ⟨Nat.le_refl _, Nat.le_refl _⟩ dX8_move_1 rfl v.2 (fun r2 h1 v => ?_)
  refine zg_if_ne (t := 10) (q := 7) C dX8_move_4 (by decide) rfl (fun c => ?_) (fun c => ?_)
  · have v := v.1 c
    refine zg_aload_n (q := 11) C dX8_move_10 rfl rfl ?_
    refine zg_iconst (v := 0) (q := 12) C dX8_move_11 (by decide) rfl ?_
    refine zg_aload_n (q := 13) C dX8_move_12 rfl rfl ?_
    refine zg_cV0I (q := 16) C mX8_here vX8_here lmX8_260 rfl (bX8).1 v.1 (Nat.le_of_ble_eq_true rfl) ⟨Nat.le_refl _, Nat.le_refl _⟩ dX8_move_13 rfl v.2 (fun r4 h3 v => ?_)
    refine zg_cV2V (q := 19) C mX8_findMoves vX8_findMoves lmX8_209 rfl (bX8).1 v.1 (Nat.le_of_ble_eq_true rfl) ⟨Nat.le_refl _, Nat.le_refl _⟩ dX8_move_16 rfl v.2 (fun h5 v => ?_)
    refine zg_iload_n (q := 20) C dX8_move_19 rfl rfl ?_
    refine zg_iconst (v := 0) (q := 21) C dX8_move_20 (by decide) rfl ?_
    refine zg_aload_n (q := 22) C dX8_move_21 rfl rfl ?_
    refine zg_get (j := 9) (q := 25) C bX8 (by decide) lkX8_27 dX8_move_22 rfl (okA.get v.1) ?_
    have v := v.2
    refine zg_iconst (v := 0) (q := 26) C dX8_move_25 (by decide) rfl ?_
    refine zg_iald (q := 27) C dX8_move_26 rfl v.1 ?_
    have v := v.2
    refine zg_iconst (v := 1) (q := 28) C dX8_move_27 (by decide) rfl ?_
    refine zg_isub (q := 29) C dX8_move_28 rfl ?_
    refine zg_cS3I (q := 32) C mX8_isBetween tX8_isBetween lmX8_86 rfl (Nat.le_of_ble_eq_true rfl) ⟨Nat.le_refl _, Nat.le_refl _⟩ dX8_move_29 rfl v (fun r7 h6 v => ?_)
    refine zg_if_ne (t := 37) (q := 35) C dX8_move_32 (by decide) rfl (fun c => ?_) (fun c => ?_)
    · have v := v.1 c
      refine zg_aload_n (q := 38) C dX8_move_37 rfl rfl ?_
      refine zg_get (j := 13) (q := 41) C bX8 (by decide) lkX8_39 dX8_move_38 rfl (okA.get v.1) ?_
      have v := v.2
      refine zg_iconst (v := 0) (q := 42) C dX8_move_41 (by decide) rfl ?_
      refine zg_aald (q := 43) C dX8_move_42 rfl v.1 ?_
      have v := v.2
      refine zg_iload_n (q := 44) C dX8_move_43 rfl rfl ?_
      refine zg_iald (q := 45) C dX8_move_44 rfl v.1 ?_
      have v := v.2
      refine zg_istore_n (q := 46) C dX8_move_45 (by decide) rfl ?_
      refine zg_iload_n (q := 47) C dX8_move_46 rfl rfl ?_
      by_cases c0 : x2 = (0 : Int32)
      · have v := v.1 c0
        refine zg_tabC (t := 88) (off := 41) C dX8_move_47 c0 (by decide) (by decide) (by decide) (by decide) ?_
        refine zg_aload_n (q := 89) C dX8_move_88 rfl rfl ?_
        refine zg_get (j := 10) (q := 92) C bX8 (by decide) lkX8_30 dX8_move_89 rfl (okA.get v.1) ?_
        have v := v.2
        refine zg_iconst (v := 0) (q := 93) C dX8_move_92 (by decide) rfl ?_
        refine zg_aald (q := 94) C dX8_move_93 rfl v.1 ?_
        have v := v.2
        refine zg_iload_n (q := 95) C dX8_move_94 rfl rfl ?_
        refine zg_iald (q := 96) C dX8_move_95 rfl v.1 ?_
        have v := v.2
        exact zg_iret C rfl dX8_move_96 ⟨Nat.le_refl _, Nat.le_refl _⟩ ⟨_, rfl, v⟩
      · have v := v.2 c0
        by_cases c1 : x2 = (1 : Int32)
        · have v := v.1 c1
          refine zg_tabC (t := 97) (off := 50) C dX8_move_47 c1 (by decide) (by decide) (by decide) (by decide) ?_
          refine zg_aload_n (q := 98) C dX8_move_97 rfl rfl ?_
          refine zg_get (j := 11) (q := 101) C bX8 (by decide) lkX8_33 dX8_move_98 rfl (okA.get v.1) ?_
          have v := v.2
          refine zg_iconst (v := 0) (q := 102) C dX8_move_101 (by decide) rfl ?_
          refine zg_aald (q := 103) C dX8_move_102 rfl v.1 ?_
          have v := v.2
          refine zg_iload_n (q := 104) C dX8_move_103 rfl rfl ?_
          refine zg_iald (q := 105) C dX8_move_104 rfl v.1 ?_
          have v := v.2
          exact zg_iret C rfl dX8_move_105 ⟨Nat.le_refl _, Nat.le_refl _⟩ ⟨_, rfl, v⟩
        · have v := v.2 c1
          by_cases c2 : x2 = (2 : Int32)
          · have v := v.1 c2
            refine zg_tabC (t := 106) (off := 59) C dX8_move_47 c2 (by decide) (by decide) (by decide) (by decide) ?_
            refine zg_aload_n (q := 107) C dX8_move_106 rfl rfl ?_
            refine zg_get (j := 12) (q := 110) C bX8 (by decide) lkX8_36 dX8_move_107 rfl (okA.get v.1) ?_
            have v := v.2
            refine zg_iconst (v := 0) (q := 111) C dX8_move_110 (by decide) rfl ?_
            refine zg_aald (q := 112) C dX8_move_111 rfl v.1 ?_
            have v := v.2
            refine zg_iload_n (q := 113) C dX8_move_112 rfl rfl ?_
            refine zg_iald (q := 114) C dX8_move_113 rfl v.1 ?_
            have v := v.2
            exact zg_iret C rfl dX8_move_114 ⟨Nat.le_refl _, Nat.le_refl _⟩ ⟨_, rfl, v⟩
          · have v := v.2 c2
            by_cases c3 : x2 = (3 : Int32)
            · have v := v.1 c3
              refine zg_tabC (t := 115) (off := 68) C dX8_move_47 c3 (by decide) (by decide) (by decide) (by decide) ?_
              refine zg_aload_n (q := 116) C dX8_move_115 rfl rfl ?_
              refine zg_get (j := 17) (q := 119) C bX8 (by decide) lkX8_52 dX8_move_116 rfl (okA.get v.1) ?_
              have v := v.2
              refine zg_iload_n (q := 120) C dX8_move_119 rfl rfl ?_
              refine zg_iald (q := 121) C dX8_move_120 rfl v.1 ?_
              have v := v.2
              exact zg_iret C rfl dX8_move_121 ⟨Nat.le_refl _, Nat.le_refl _⟩ ⟨_, rfl, v⟩
            · have v := v.2 c3
              by_cases c4 : x2 = (4 : Int32)
              · have v := v.1 c4
                refine zg_tabC (t := 122) (off := 75) C dX8_move_47 c4 (by decide) (by decide) (by decide) (by decide) ?_
                refine zg_aload_n (q := 123) C dX8_move_122 rfl rfl ?_
                refine zg_get (j := 18) (q := 126) C bX8 (by decide) lkX8_55 dX8_move_123 rfl (okA.get v.1) ?_
                have v := v.2
                refine zg_iload_n (q := 127) C dX8_move_126 rfl rfl ?_
                refine zg_iald (q := 128) C dX8_move_127 rfl v.1 ?_
                have v := v.2
                exact zg_iret C rfl dX8_move_128 ⟨Nat.le_refl _, Nat.le_refl _⟩ ⟨_, rfl, v⟩
              · have v := v.2 c4
                by_cases c5 : x2 = (5 : Int32)
                · have v := v.1 c5
                  refine zg_tabC (t := 129) (off := 82) C dX8_move_47 c5 (by decide) (by decide) (by decide) (by decide) ?_
                  refine zg_aload_n (q := 130) C dX8_move_129 rfl rfl ?_
                  refine zg_get (j := 19) (q := 133) C bX8 (by decide) lkX8_58 dX8_move_130 rfl (okA.get v.1) ?_
                  have v := v.2
                  refine zg_iload_n (q := 134) C dX8_move_133 rfl rfl ?_
                  refine zg_iald (q := 135) C dX8_move_134 rfl v.1 ?_
                  have v := v.2
                  exact zg_iret C rfl dX8_move_135 ⟨Nat.le_refl _, Nat.le_refl _⟩ ⟨_, rfl, v⟩
                · have v := v.2 c5
                  by_cases c6 : x2 = (6 : Int32)
                  · have v := v.1 c6
                    refine zg_tabC (t := 136) (off := 89) C dX8_move_47 c6 (by decide) (by decide) (by decide) (by decide) ?_
                    refine zg_iload_n (q := 137) C dX8_move_136 rfl rfl ?_
                    exact zg_iret C rfl dX8_move_137 ⟨Nat.le_refl _, Nat.le_refl _⟩ ⟨_, rfl, v⟩
                  · have v := v.2 c6
                    refine zg_tabD (t := 138) (cnt := 7) C dX8_move_47 (fun j hj => by match j, hj with | 0, _ => exact c0 | 1, _ => exact c1 | 2, _ => exact c2 | 3, _ => exact c3 | 4, _ => exact c4 | 5, _ => exact c5 | 6, _ => exact c6) rfl (by decide) ?_
                    refine zg_iconst (v := (-1)) (q := 139) C dX8_move_138 (by decide) rfl ?_
                    exact zg_iret C rfl dX8_move_139 ⟨Nat.le_refl _, Nat.le_refl _⟩ ⟨_, rfl, v⟩
    · have v := v.2 c
      refine zg_iconst (v := (-1)) (q := 36) C dX8_move_35 (by decide) rfl ?_
      exact zg_iret C rfl dX8_move_36 ⟨Nat.le_refl _, Nat.le_refl _⟩ ⟨_, rfl, v⟩
  · have v := v.2 c
    refine zg_bipush (v := (-3)) (q := 9) C dX8_move_7 (by decide) rfl ?_
    exact zg_iret C rfl dX8_move_9 ⟨Nat.le_refl _, Nat.le_refl _⟩ ⟨_, rfl, v⟩
theorem rnX8_move {E : Wd} {d : Nat} {a0 : Nat} {x1 : Int32} {x2 : Int32} {h : Hp} {Q : Int32 → Hp → Prop} (k : vcX8_move_0 E d a0 x1 x2 h Q) : OkI E YX8_move (d + 1) [.ref a0, .int x1, .int x2] h Q :=
  zz_body2 (r := 1) mX8_move (zc_a (zc_i (zc_i zc_n))) (Nat.le_of_ble_eq_true rfl) (fun X C => zsX8_move_0 C a0 x1 x2 h k)
def vcX8_occurrences_0 (E : Wd) (d : Nat) (K4 : Nat → Int32 → Int32 → Hp → Prop) (a0 : Nat) (h : Hp) (Q : Int32 → Hp → Prop) : Prop :=
  K4 a0 0 0 h
def vcX8_occurrences_4 (E : Wd) (d : Nat) (K4 : Nat → Int32 → Int32 → Hp → Prop) (a0 : Nat) (x1 : Int32) (x2 : Int32) (h : Hp) (Q : Int32 → Hp → Prop) : Prop :=
  okI h a0 8 23 ∧ ((fI h a0 23) < x2 → Q x1 h) ∧ (¬ (fI h a0 23) < x2 → okA h a0 8 25 ∧ okR E h (fA h a0 25) 0 x2 ∧ isO h a0 8 ∧ OkI E YX8_here d [.ref a0] h (fun r2 h1 => (¬ (gA h (fA h a0 25) x2) = r2 → K4 a0 (x1 + (0 : Int32)) (x2 + 1) h1) ∧ ((gA h (fA h a0 25) x2) = r2 → K4 a0 (x1 + (1 : Int32)) (x2 + 1) h1)))
def zkX8_occurrences_4 (E : Wd) (X : Mx) : Nat → Int32 → Int32 → Hp → Prop := fun a0 x1 x2 h => GG E X 3 0 0 4 [some (.ref a0), some (.int x1), some (.int x2)] [] h
set_option maxRecDepth 100000 in
set_option maxHeartbeats 4000000 in
theorem zsX8_occurrences_0 {E : Wd} {X : Mx} {d : Nat} {Q : Int32 → Hp → Prop} (C : zz_C E X YX8_occurrences (d + 1) 0 0 (fun r h' => ∃ x : Int32, r = some (.int x) ∧ Q x h')) (a0 : Nat) (h : Hp) (v : vcX8_occurrences_0 E d (zkX8_occurrences_4 E X) a0 h Q) : GG E X 3 0 0 0 [some (.ref a0), none, none] [] h := by
  refine zg_iconst (v := 0) (q := 1) C dX8_occurrences_0 (by decide) rfl ?_
  refine zg_istore_n (q := 2) C dX8_occurrences_1 (by decide) rfl ?_
  refine zg_iconst (v := 0) (q := 3) C dX8_occurrences_2 (by decide) rfl ?_
  refine zg_istore_n (q := 4) C dX8_occurrences_3 (by decide) rfl ?_
  exact zg_mask [true, true, true] v
set_option maxRecDepth 100000 in
set_option maxHeartbeats 4000000 in
theorem zsX8_occurrences_4 {E : Wd} {X : Mx} {d : Nat} {Q : Int32 → Hp → Prop} (C : zz_C E X YX8_occurrences (d + 1) 0 0 (fun r h' => ∃ x : Int32, r = some (.int x) ∧ Q x h')) (a0 : Nat) (x1 : Int32) (x2 : Int32) (h : Hp) (v : vcX8_occurrences_4 E d (zkX8_occurrences_4 E X) a0 x1 x2 h Q) : GG E X 3 0 0 4 [some (.ref a0), some (.int x1), some (.int x2)] [] h := by
  refine zg_iload_n (q := 5) C dX8_occurrences_4 rfl rfl ?_
  refine zg_aload_n (q := 6) C dX8_occurrences_5 rfl rfl ?_
  refine zg_get (j := 23) (q := 9) C bX8 (by decide) lkX8_67 dX8_occurrences_6 rfl (okI.get v.1) ?_
  have v := v.2
  refine zg_icmp_gt (t := 39) (q := 12) C dX8_occurrences_9 (by decide) rfl (fun c => ?_) (fun c => ?_)
  · have v := v.1 c
    refine zg_iload_n (q := 40) C dX8_occurrences_39 rfl rfl ?_
    exact zg_iret C rfl dX8_occurrences_40 ⟨Nat.le_refl _, Nat.le_refl _⟩ ⟨_, rfl, v⟩
  · have v := v.2 c
    refine zg_iload_n (q := 13) C dX8_occurrences_12 rfl rfl ?_
    refine zg_aload_n (q := 14) C dX8_occurrences_13 rfl rfl ?_
    refine zg_get (j := 25) (q := 17) C bX8 (by decide) lkX8_71 dX8_occurrences_14 rfl (okA.get v.1) ?_
    have v := v.2
    refine zg_iload_n (q := 18) C dX8_occurrences_17 rfl rfl ?_
    refine zg_iald (q := 19) C dX8_occurrences_18 rfl v.1 ?_
    have v := v.2
    refine zg_aload_n (q := 20) C dX8_occurrences_19 rfl rfl ?_
    refine zg_cV0I (q := 23) C mX8_here vX8_here lmX8_260 rfl (bX8).1 v.1 (Nat.le_of_ble_eq_true rfl) ⟨Nat.le_refl _, Nat.le_refl _⟩ dX8_occurrences_20 rfl v.2 (fun r2 h1 v => ?_)
    refine zg_icmp_ne (t := 30) (q := 26) C dX8_occurrences_23 (by decide) rfl (fun c => ?_) (fun c => ?_)
    · have v := v.1 c
      refine zg_iconst (v := 0) (q := 31) C dX8_occurrences_30 (by decide) rfl ?_
      refine zg_iadd (q := 32) C dX8_occurrences_31 rfl ?_
      refine zg_istore_n (q := 33) C dX8_occurrences_32 (by decide) rfl ?_
      refine zg_iinc (v := 1) (q := 36) C dX8_occurrences_33 rfl (by decide) (by decide) rfl ?_
      refine zg_goto (t := 4) C dX8_occurrences_36 (by decide) ?_
      exact zg_mask [true, true, true] v
    · have v := v.2 c
      refine zg_iconst (v := 1) (q := 27) C dX8_occurrences_26 (by decide) rfl ?_
      refine zg_goto (t := 31) C dX8_occurrences_27 (by decide) ?_
      refine zg_iadd (q := 32) C dX8_occurrences_31 rfl ?_
      refine zg_istore_n (q := 33) C dX8_occurrences_32 (by decide) rfl ?_
      refine zg_iinc (v := 1) (q := 36) C dX8_occurrences_33 rfl (by decide) (by decide) rfl ?_
      refine zg_goto (t := 4) C dX8_occurrences_36 (by decide) ?_
      exact zg_mask [true, true, true] v
theorem rnX8_occurrences {E : Wd} {d : Nat} {a0 : Nat} {h : Hp} {Q : Int32 → Hp → Prop} (k : ∀ (K4 : Nat → Int32 → Int32 → Hp → Prop),(∀ (a0 : Nat) (x1 : Int32) (x2 : Int32) h, vcX8_occurrences_4 E d K4 a0 x1 x2 h Q → K4 a0 x1 x2 h) → vcX8_occurrences_0 E d K4 a0 h Q) : OkI E YX8_occurrences (d + 1) [.ref a0] h Q :=
  zz_body2 (r := 2) mX8_occurrences (zc_a zc_n) (Nat.le_of_ble_eq_true rfl) (fun X C => zsX8_occurrences_0 C a0 h (k (zkX8_occurrences_4 E X) (fun a0 x1 x2 h v => zsX8_occurrences_4 C a0 x1 x2 h v)))
def vcX8_make_0 (E : Wd) (d : Nat) (a0 : Nat) (x1 : Int32) (h : Hp) (Q : Int32 → Hp → Prop) : Prop :=
  isO h a0 8 ∧ OkI E YX8_isPlaying d [.ref a0] h (fun r2 h1 => (¬ r2 = (0 : Int32) → isO h1 a0 8 ∧ OkI E YX8_here d [.ref a0] h1 (fun r4 h3 => isO h3 a0 8 ∧ OkV E YX8_findMoves d [.ref a0, .int 0, .int r4] h3 (fun h5 => okA h5 a0 8 9 ∧ okR E h5 (fA h5 a0 9) 0 0 ∧ OkI E YX8_isBetween d [.int x1, .int 0, .int ((gA h5 (fA h5 a0 9) 0) - (1 : Int32))] h5 (fun r7 h6 => (¬ r7 = (0 : Int32) → okI h6 a0 8 23 ∧ (¬ (fI h6 a0 23) = (40 : Int32) → okI h6 a0 8 23 ∧ okP h6 a0 8 23 ∧ ∀ h8, h8 = pF h6 a0 23 (.int ((fI h6 a0 23) + (1 : Int32))) → okA h8 a0 8 25 ∧ okI h8 a0 8 23 ∧ okA h8 a0 8 13 ∧ okW E h8 (fA h8 a0 13) 0 ∧ okR E h8 (gW h8 (fA h8 a0 13) 0) 0 x1 ∧ okR E h8 (fA h8 a0 25) 0 (fI h8 a0 23) ∧ ∀ h9, h9 = sA h8 (fA h8 a0 25) (fI h8 a0 23) (gA h8 (gW h8 (fA h8 a0 13) 0) x1) → okA h9 a0 8 27 ∧ okI h9 a0 8 23 ∧ okA h9 a0 8 12 ∧ okW E h9 (fA h9 a0 12) 0 ∧ okR E h9 (gW h9 (fA h9 a0 12) 0) 0 x1 ∧ ((gA h9 (gW h9 (fA h9 a0 12) 0) x1) < (0 : Int32) → okR E h9 (fA h9 a0 27) 1 (fI h9 a0 23) ∧ mB 0 ∧ ∀ h10, h10 = sA h9 (fA h9 a0 27) (fI h9 a0 23) 0 → isO h10 a0 8 ∧ OkI E YX8_occurrences d [.ref a0] h10 (fun r12 h11 => Q r12 h11)) ∧ (¬ (gA h9 (gW h9 (fA h9 a0 12) 0) x1) < (0 : Int32) → okR E h9 (fA h9 a0 27) 1 (fI h9 a0 23) ∧ mB 1 ∧ ∀ h13, h13 = sA h9 (fA h9 a0 27) (fI h9 a0 23) 1 → isO h13 a0 8 ∧ OkI E YX8_occurrences d [.ref a0] h13 (fun r15 h14 => Q r15 h14))) ∧ ((fI h6 a0 23) = (40 : Int32) → Q ((-4)) h6)) ∧ (r7 = (0 : Int32) → Q ((-1)) h6))))) ∧ (r2 = (0 : Int32) → Q ((-3)) h1))
set_option maxRecDepth 100000 in
set_option maxHeartbeats 4000000 in
theorem zsX8_make_0 {E : Wd} {X : Mx} {d : Nat} {Q : Int32 → Hp → Prop} (C : zz_C E X YX8_make (d + 1) 0 0 (fun r h' => ∃ x : Int32, r = some (.int x) ∧ Q x h')) (a0 : Nat) (x1 : Int32) (h : Hp) (v : vcX8_make_0 E d a0 x1 h Q) : GG E X 2 0 0 0 [some (.ref a0), some (.int x1)] [] h := by
  refine zg_aload_n (q := 1) C dX8_make_0 rfl rfl ?_
  refine zg_cV0I (q := 4) C mX8_isPlaying vX8_isPlaying lmX8_257 rfl (bX8).1 v.1 (Nat.le_of_ble_eq_true rfl) ⟨Nat.le_refl _, Nat.le_refl _⟩ dX8_make_1 rfl v.2 (fun r2 h1 v => ?_)
  refine zg_if_ne (t := 10) (q := 7) C dX8_make_4 (by decide) rfl (fun c => ?_) (fun c => ?_)
  · have v := v.1 c
    refine zg_aload_n (q := 11) C dX8_make_10 rfl rfl ?_
    refine zg_iconst (v := 0) (q := 12) C dX8_make_11 (by decide) rfl ?_
    refine zg_aload_n (q := 13) C dX8_make_12 rfl rfl ?_
    refine zg_cV0I (q := 16) C mX8_here vX8_here lmX8_260 rfl (bX8).1 v.1 (Nat.le_of_ble_eq_true rfl) ⟨Nat.le_refl _, Nat.le_refl _⟩ dX8_make_13 rfl v.2 (fun r4 h3 v => ?_)
    refine zg_cV2V (q := 19) C mX8_findMoves vX8_findMoves lmX8_209 rfl (bX8).1 v.1 (Nat.le_of_ble_eq_true rfl) ⟨Nat.le_refl _, Nat.le_refl _⟩ dX8_make_16 rfl v.2 (fun h5 v => ?_)
    refine zg_iload_n (q := 20) C dX8_make_19 rfl rfl ?_
    refine zg_iconst (v := 0) (q := 21) C dX8_make_20 (by decide) rfl ?_
    refine zg_aload_n (q := 22) C dX8_make_21 rfl rfl ?_
    refine zg_get (j := 9) (q := 25) C bX8 (by decide) lkX8_27 dX8_make_22 rfl (okA.get v.1) ?_
    have v := v.2
    refine zg_iconst (v := 0) (q := 26) C dX8_make_25 (by decide) rfl ?_
    refine zg_iald (q := 27) C dX8_make_26 rfl v.1 ?_
    have v := v.2
    refine zg_iconst (v := 1) (q := 28) C dX8_make_27 (by decide) rfl ?_
    refine zg_isub (q := 29) C dX8_make_28 rfl ?_
    refine zg_cS3I (q := 32) C mX8_isBetween tX8_isBetween lmX8_86 rfl (Nat.le_of_ble_eq_true rfl) ⟨Nat.le_refl _, Nat.le_refl _⟩ dX8_make_29 rfl v (fun r7 h6 v => ?_)
    refine zg_if_ne (t := 37) (q := 35) C dX8_make_32 (by decide) rfl (fun c => ?_) (fun c => ?_)
    · have v := v.1 c
      refine zg_aload_n (q := 38) C dX8_make_37 rfl rfl ?_
      refine zg_get (j := 23) (q := 41) C bX8 (by decide) lkX8_67 dX8_make_38 rfl (okI.get v.1) ?_
      have v := v.2
      refine zg_bipush (v := 40) (q := 43) C dX8_make_41 (by decide) rfl ?_
      refine zg_icmp_ne (t := 49) (q := 46) C dX8_make_43 (by decide) rfl (fun c => ?_) (fun c => ?_)
      · have v := v.1 c
        refine zg_aload_n (q := 50) C dX8_make_49 rfl rfl ?_
        refine zg_dup (q := 51) C dX8_make_50 rfl rfl ?_
        refine zg_get (j := 23) (q := 54) C bX8 (by decide) lkX8_67 dX8_make_51 rfl (okI.get v.1) ?_
        have v := v.2
        refine zg_iconst (v := 1) (q := 55) C dX8_make_54 (by decide) rfl ?_
        refine zg_iadd (q := 56) C dX8_make_55 rfl ?_
        refine zg_put (j := 23) (q := 59) C bX8 (by decide) lkX8_67 dX8_make_56 rfl rfl v.1 rfl rfl ?_
        have v := v.2 _ rfl
        refine zg_aload_n (q := 60) C dX8_make_59 rfl rfl ?_
        refine zg_get (j := 25) (q := 63) C bX8 (by decide) lkX8_71 dX8_make_60 rfl (okA.get v.1) ?_
        have v := v.2
        refine zg_aload_n (q := 64) C dX8_make_63 rfl rfl ?_
        refine zg_get (j := 23) (q := 67) C bX8 (by decide) lkX8_67 dX8_make_64 rfl (okI.get v.1) ?_
        have v := v.2
        refine zg_aload_n (q := 68) C dX8_make_67 rfl rfl ?_
        refine zg_get (j := 13) (q := 71) C bX8 (by decide) lkX8_39 dX8_make_68 rfl (okA.get v.1) ?_
        have v := v.2
        refine zg_iconst (v := 0) (q := 72) C dX8_make_71 (by decide) rfl ?_
        refine zg_aald (q := 73) C dX8_make_72 rfl v.1 ?_
        have v := v.2
        refine zg_iload_n (q := 74) C dX8_make_73 rfl rfl ?_
        refine zg_iald (q := 75) C dX8_make_74 rfl v.1 ?_
        have v := v.2
        refine zg_iast (q := 76) C dX8_make_75 rfl v.1 ?_
        have v := v.2 _ rfl
        refine zg_aload_n (q := 77) C dX8_make_76 rfl rfl ?_
        refine zg_get (j := 27) (q := 80) C bX8 (by decide) lkX8_77 dX8_make_77 rfl (okA.get v.1) ?_
        have v := v.2
        refine zg_aload_n (q := 81) C dX8_make_80 rfl rfl ?_
        refine zg_get (j := 23) (q := 84) C bX8 (by decide) lkX8_67 dX8_make_81 rfl (okI.get v.1) ?_
        have v := v.2
        refine zg_aload_n (q := 85) C dX8_make_84 rfl rfl ?_
        refine zg_get (j := 12) (q := 88) C bX8 (by decide) lkX8_36 dX8_make_85 rfl (okA.get v.1) ?_
        have v := v.2
        refine zg_iconst (v := 0) (q := 89) C dX8_make_88 (by decide) rfl ?_
        refine zg_aald (q := 90) C dX8_make_89 rfl v.1 ?_
        have v := v.2
        refine zg_iload_n (q := 91) C dX8_make_90 rfl rfl ?_
        refine zg_iald (q := 92) C dX8_make_91 rfl v.1 ?_
        have v := v.2
        refine zg_if_lt (t := 99) (q := 95) C dX8_make_92 (by decide) rfl (fun c => ?_) (fun c => ?_)
        · have v := v.1 c
          refine zg_iconst (v := 0) (q := 100) C dX8_make_99 (by decide) rfl ?_
          refine zg_zast (q := 101) C dX8_make_100 rfl v.1 v.2.1 ?_
          have v := v.2.2 _ rfl
          refine zg_aload_n (q := 102) C dX8_make_101 rfl rfl ?_
          refine zg_cV0I (q := 105) C mX8_occurrences vX8_occurrences lmX8_272 rfl (bX8).1 v.1 (Nat.le_of_ble_eq_true rfl) ⟨Nat.le_refl _, Nat.le_refl _⟩ dX8_make_102 rfl v.2 (fun r12 h11 v => ?_)
          exact zg_iret C rfl dX8_make_105 ⟨Nat.le_refl _, Nat.le_refl _⟩ ⟨_, rfl, v⟩
        · have v := v.2 c
          refine zg_iconst (v := 1) (q := 96) C dX8_make_95 (by decide) rfl ?_
          refine zg_goto (t := 100) C dX8_make_96 (by decide) ?_
          refine zg_zast (q := 101) C dX8_make_100 rfl v.1 v.2.1 ?_
          have v := v.2.2 _ rfl
          refine zg_aload_n (q := 102) C dX8_make_101 rfl rfl ?_
          refine zg_cV0I (q := 105) C mX8_occurrences vX8_occurrences lmX8_272 rfl (bX8).1 v.1 (Nat.le_of_ble_eq_true rfl) ⟨Nat.le_refl _, Nat.le_refl _⟩ dX8_make_102 rfl v.2 (fun r15 h14 v => ?_)
          exact zg_iret C rfl dX8_make_105 ⟨Nat.le_refl _, Nat.le_refl _⟩ ⟨_, rfl, v⟩
      · have v := v.2 c
        refine zg_bipush (v := (-4)) (q := 48) C dX8_make_46 (by decide) rfl ?_
        exact zg_iret C rfl dX8_make_48 ⟨Nat.le_refl _, Nat.le_refl _⟩ ⟨_, rfl, v⟩
    · have v := v.2 c
      refine zg_iconst (v := (-1)) (q := 36) C dX8_make_35 (by decide) rfl ?_
      exact zg_iret C rfl dX8_make_36 ⟨Nat.le_refl _, Nat.le_refl _⟩ ⟨_, rfl, v⟩
  · have v := v.2 c
    refine zg_bipush (v := (-3)) (q := 9) C dX8_make_7 (by decide) rfl ?_
    exact zg_iret C rfl dX8_make_9 ⟨Nat.le_refl _, Nat.le_refl _⟩ ⟨_, rfl, v⟩
theorem rnX8_make {E : Wd} {d : Nat} {a0 : Nat} {x1 : Int32} {h : Hp} {Q : Int32 → Hp → Prop} (k : vcX8_make_0 E d a0 x1 h Q) : OkI E YX8_make (d + 1) [.ref a0, .int x1] h Q :=
  zz_body2 (r := 0) mX8_make (zc_a (zc_i zc_n)) (Nat.le_of_ble_eq_true rfl) (fun X C => zsX8_make_0 C a0 x1 h k)
def vcX8_back_0 (E : Wd) (d : Nat) (a0 : Nat) (h : Hp) (Q : Int32 → Hp → Prop) : Prop :=
  isO h a0 8 ∧ OkI E YX8_isPlaying d [.ref a0] h (fun r2 h1 => (r2 = (0 : Int32) → Q ((-3)) h1) ∧ (¬ r2 = (0 : Int32) → okI h1 a0 8 23 ∧ (¬ (fI h1 a0 23) = (0 : Int32) → okI h1 a0 8 23 ∧ okP h1 a0 8 23 ∧ ∀ h3, h3 = pF h1 a0 23 (.int ((fI h1 a0 23) - (1 : Int32))) → okI h3 a0 8 23 ∧ Q (fI h3 a0 23) h3) ∧ ((fI h1 a0 23) = (0 : Int32) → Q ((-3)) h1)))
set_option maxRecDepth 100000 in
set_option maxHeartbeats 4000000 in
theorem zsX8_back_0 {E : Wd} {X : Mx} {d : Nat} {Q : Int32 → Hp → Prop} (C : zz_C E X YX8_back (d + 1) 0 0 (fun r h' => ∃ x : Int32, r = some (.int x) ∧ Q x h')) (a0 : Nat) (h : Hp) (v : vcX8_back_0 E d a0 h Q) : GG E X 1 0 0 0 [some (.ref a0)] [] h := by
  refine zg_aload_n (q := 1) C dX8_back_0 rfl rfl ?_
  refine zg_cV0I (q := 4) C mX8_isPlaying vX8_isPlaying lmX8_257 rfl (bX8).1 v.1 (Nat.le_of_ble_eq_true rfl) ⟨Nat.le_refl _, Nat.le_refl _⟩ dX8_back_1 rfl v.2 (fun r2 h1 v => ?_)
  refine zg_if_eq (t := 14) (q := 7) C dX8_back_4 (by decide) rfl (fun c => ?_) (fun c => ?_)
  · have v := v.1 c
    refine zg_bipush (v := (-3)) (q := 16) C dX8_back_14 (by decide) rfl ?_
    exact zg_iret C rfl dX8_back_16 ⟨Nat.le_refl _, Nat.le_refl _⟩ ⟨_, rfl, v⟩
  · have v := v.2 c
    refine zg_aload_n (q := 8) C dX8_back_7 rfl rfl ?_
    refine zg_get (j := 23) (q := 11) C bX8 (by decide) lkX8_67 dX8_back_8 rfl (okI.get v.1) ?_
    have v := v.2
    refine zg_if_ne (t := 17) (q := 14) C dX8_back_11 (by decide) rfl (fun c => ?_) (fun c => ?_)
    · have v := v.1 c
      refine zg_aload_n (q := 18) C dX8_back_17 rfl rfl ?_
      refine zg_dup (q := 19) C dX8_back_18 rfl rfl ?_
      refine zg_get (j := 23) (q := 22) C bX8 (by decide) lkX8_67 dX8_back_19 rfl (okI.get v.1) ?_
      have v := v.2
      refine zg_iconst (v := 1) (q := 23) C dX8_back_22 (by decide) rfl ?_
      refine zg_isub (q := 24) C dX8_back_23 rfl ?_
      refine zg_put (j := 23) (q := 27) C bX8 (by decide) lkX8_67 dX8_back_24 rfl rfl v.1 rfl rfl ?_
      have v := v.2 _ rfl
      refine zg_aload_n (q := 28) C dX8_back_27 rfl rfl ?_
      refine zg_get (j := 23) (q := 31) C bX8 (by decide) lkX8_67 dX8_back_28 rfl (okI.get v.1) ?_
      have v := v.2
      exact zg_iret C rfl dX8_back_31 ⟨Nat.le_refl _, Nat.le_refl _⟩ ⟨_, rfl, v⟩
    · have v := v.2 c
      refine zg_bipush (v := (-3)) (q := 16) C dX8_back_14 (by decide) rfl ?_
      exact zg_iret C rfl dX8_back_16 ⟨Nat.le_refl _, Nat.le_refl _⟩ ⟨_, rfl, v⟩
theorem rnX8_back {E : Wd} {d : Nat} {a0 : Nat} {h : Hp} {Q : Int32 → Hp → Prop} (k : vcX8_back_0 E d a0 h Q) : OkI E YX8_back (d + 1) [.ref a0] h Q :=
  zz_body2 (r := 0) mX8_back (zc_a zc_n) (Nat.le_of_ble_eq_true rfl) (fun X C => zsX8_back_0 C a0 h k)
def vcX8_bestOf_0 (E : Wd) (d : Nat) (K11 : Nat → Int32 → Int32 → Int32 → Hp → Prop) (a0 : Nat) (x1 : Int32) (h : Hp) (Q : Int32 → Hp → Prop) : Prop :=
  isO h a0 8 ∧ OkV E YX8_findMoves d [.ref a0, .int 0, .int x1] h (fun h1 => K11 a0 x1 ((-5)) 0 h1)
def vcX8_bestOf_131 (E : Wd) (d : Nat) (K11 : Nat → Int32 → Int32 → Int32 → Hp → Prop) (a0 : Nat) (x1 : Int32) (x2 : Int32) (x3 : Int32) (x5 : Int32) (s0 : Int32) (h : Hp) (Q : Int32 → Hp → Prop) : Prop :=
  (x5 = (0 : Int32) → K11 a0 x1 x2 (x3 + 1) h) ∧ (¬ x5 = (0 : Int32) → (s0 = (0 : Int32) → K11 a0 x1 x2 (x3 + 1) h) ∧ (¬ s0 = (0 : Int32) → K11 a0 x1 x3 (x3 + 1) h))
def vcX8_bestOf_126 (E : Wd) (d : Nat) (K11 : Nat → Int32 → Int32 → Int32 → Hp → Prop) (a0 : Nat) (x1 : Int32) (x2 : Int32) (x3 : Int32) (x5 : Int32) (h : Hp) (Q : Int32 → Hp → Prop) : Prop :=
  vcX8_bestOf_131 E d K11 a0 x1 x2 x3 x5 1 h Q
def vcX8_bestOf_130 (E : Wd) (d : Nat) (K11 : Nat → Int32 → Int32 → Int32 → Hp → Prop) (a0 : Nat) (x1 : Int32) (x2 : Int32) (x3 : Int32) (x5 : Int32) (h : Hp) (Q : Int32 → Hp → Prop) : Prop :=
  vcX8_bestOf_131 E d K11 a0 x1 x2 x3 x5 0 h Q
def vcX8_bestOf_104 (E : Wd) (d : Nat) (K11 : Nat → Int32 → Int32 → Int32 → Hp → Prop) (a0 : Nat) (x1 : Int32) (x2 : Int32) (x3 : Int32) (x4 : Int32) (x5 : Int32) (x6 : Int32) (h : Hp) (Q : Int32 → Hp → Prop) : Prop :=
  okA h a0 8 17 ∧ okR E h (fA h a0 17) 0 x1 ∧ (¬ (gA h (fA h a0 17) x1) = ((-1)) → vcX8_bestOf_130 E d K11 a0 x1 x2 x3 x5 h Q) ∧ ((gA h (fA h a0 17) x1) = ((-1)) → okA h a0 8 18 ∧ okR E h (fA h a0 18) 0 x4 ∧ ((gA h (fA h a0 18) x4) ≤ x6 → vcX8_bestOf_130 E d K11 a0 x1 x2 x3 x5 h Q) ∧ (¬ (gA h (fA h a0 18) x4) ≤ x6 → vcX8_bestOf_126 E d K11 a0 x1 x2 x3 x5 h Q))
def vcX8_bestOf_76 (E : Wd) (d : Nat) (K11 : Nat → Int32 → Int32 → Int32 → Hp → Prop) (a0 : Nat) (x1 : Int32) (x2 : Int32) (x3 : Int32) (x4 : Int32) (x5 : Int32) (s0 : Int32) (h : Hp) (Q : Int32 → Hp → Prop) : Prop :=
  (x2 < (0 : Int32) → vcX8_bestOf_126 E d K11 a0 x1 x2 x3 x5 h Q) ∧ (¬ x2 < (0 : Int32) → okA h a0 8 17 ∧ okR E h (fA h a0 17) 0 x1 ∧ (¬ (gA h (fA h a0 17) x1) = (1 : Int32) → vcX8_bestOf_104 E d K11 a0 x1 x2 x3 x4 x5 s0 h Q) ∧ ((gA h (fA h a0 17) x1) = (1 : Int32) → okA h a0 8 18 ∧ okR E h (fA h a0 18) 0 x4 ∧ ((gA h (fA h a0 18) x4) < s0 → vcX8_bestOf_126 E d K11 a0 x1 x2 x3 x5 h Q) ∧ (¬ (gA h (fA h a0 18) x4) < s0 → vcX8_bestOf_104 E d K11 a0 x1 x2 x3 x4 x5 s0 h Q)))
def vcX8_bestOf_53 (E : Wd) (d : Nat) (K11 : Nat → Int32 → Int32 → Int32 → Hp → Prop) (a0 : Nat) (x1 : Int32) (x2 : Int32) (x3 : Int32) (x4 : Int32) (s0 : Int32) (h : Hp) (Q : Int32 → Hp → Prop) : Prop :=
  ((0 : Int32) ≤ x2 → okA h a0 8 18 ∧ okA h a0 8 13 ∧ okW E h (fA h a0 13) 0 ∧ okR E h (gW h (fA h a0 13) 0) 0 x2 ∧ okR E h (fA h a0 18) 0 (gA h (gW h (fA h a0 13) 0) x2) ∧ vcX8_bestOf_76 E d K11 a0 x1 x2 x3 x4 s0 (gA h (fA h a0 18) (gA h (gW h (fA h a0 13) 0) x2)) h Q) ∧ (¬ (0 : Int32) ≤ x2 → vcX8_bestOf_76 E d K11 a0 x1 x2 x3 x4 s0 0 h Q)
def vcX8_bestOf_11 (E : Wd) (d : Nat) (K11 : Nat → Int32 → Int32 → Int32 → Hp → Prop) (a0 : Nat) (x1 : Int32) (x2 : Int32) (x3 : Int32) (h : Hp) (Q : Int32 → Hp → Prop) : Prop :=
  okA h a0 8 9 ∧ okR E h (fA h a0 9) 0 0 ∧ ((gA h (fA h a0 9) 0) ≤ x3 → Q x2 h) ∧ (¬ (gA h (fA h a0 9) 0) ≤ x3 → okA h a0 8 13 ∧ okW E h (fA h a0 13) 0 ∧ okR E h (gW h (fA h a0 13) 0) 0 x3 ∧ okA h a0 8 17 ∧ okR E h (fA h a0 17) 0 (gA h (gW h (fA h a0 13) 0) x3) ∧ okA h a0 8 17 ∧ okR E h (fA h a0 17) 0 x1 ∧ (¬ (gA h (fA h a0 17) (gA h (gW h (fA h a0 13) 0) x3)) = (-(gA h (fA h a0 17) x1)) → vcX8_bestOf_53 E d K11 a0 x1 x2 x3 (gA h (gW h (fA h a0 13) 0) x3) 0 h Q) ∧ ((gA h (fA h a0 17) (gA h (gW h (fA h a0 13) 0) x3)) = (-(gA h (fA h a0 17) x1)) → vcX8_bestOf_53 E d K11 a0 x1 x2 x3 (gA h (gW h (fA h a0 13) 0) x3) 1 h Q))
def zkX8_bestOf_11 (E : Wd) (X : Mx) : Nat → Int32 → Int32 → Int32 → Hp → Prop := fun a0 x1 x2 x3 h => GG E X 8 0 0 11 [some (.ref a0), some (.int x1), some (.int x2), some (.int x3), none, none, none, none] [] h
set_option maxRecDepth 100000 in
set_option maxHeartbeats 4000000 in
theorem zsX8_bestOf_0 {E : Wd} {X : Mx} {d : Nat} {Q : Int32 → Hp → Prop} (C : zz_C E X YX8_bestOf (d + 1) 0 0 (fun r h' => ∃ x : Int32, r = some (.int x) ∧ Q x h')) (a0 : Nat) (x1 : Int32) (h : Hp) (v : vcX8_bestOf_0 E d (zkX8_bestOf_11 E X) a0 x1 h Q) : GG E X 8 0 0 0 [some (.ref a0), some (.int x1), none, none, none, none, none, none] [] h := by
  refine zg_aload_n (q := 1) C dX8_bestOf_0 rfl rfl ?_
  refine zg_iconst (v := 0) (q := 2) C dX8_bestOf_1 (by decide) rfl ?_
  refine zg_iload_n (q := 3) C dX8_bestOf_2 rfl rfl ?_
  refine zg_cV2V (q := 6) C mX8_findMoves vX8_findMoves lmX8_209 rfl (bX8).1 v.1 (Nat.le_of_ble_eq_true rfl) ⟨Nat.le_refl _, Nat.le_refl _⟩ dX8_bestOf_3 rfl v.2 (fun h1 v => ?_)
  refine zg_bipush (v := (-5)) (q := 8) C dX8_bestOf_6 (by decide) rfl ?_
  refine zg_istore_n (q := 9) C dX8_bestOf_8 (by decide) rfl ?_
  refine zg_iconst (v := 0) (q := 10) C dX8_bestOf_9 (by decide) rfl ?_
  refine zg_istore_n (q := 11) C dX8_bestOf_10 (by decide) rfl ?_
  exact zg_mask [true, true, true, true, false, false, false, false] v
set_option maxRecDepth 100000 in
set_option maxHeartbeats 4000000 in
theorem zsX8_bestOf_131 {E : Wd} {X : Mx} {d : Nat} {Q : Int32 → Hp → Prop} (C : zz_C E X YX8_bestOf (d + 1) 0 0 (fun r h' => ∃ x : Int32, r = some (.int x) ∧ Q x h')) (a0 : Nat) (x1 : Int32) (x2 : Int32) (x3 : Int32) (x5 : Int32) (s0 : Int32) (h : Hp) (v : vcX8_bestOf_131 E d (zkX8_bestOf_11 E X) a0 x1 x2 x3 x5 s0 h Q) : GG E X 8 0 0 131 [some (.ref a0), some (.int x1), some (.int x2), some (.int x3), none, some (.int x5), none, none] [.int s0] h := by
  refine zg_istore (q := 133) C dX8_bestOf_131 (by decide) rfl ?_
  refine zg_iload (q := 135) C dX8_bestOf_133 rfl rfl ?_
  refine zg_if_eq (t := 147) (q := 138) C dX8_bestOf_135 (by decide) rfl (fun c => ?_) (fun c => ?_)
  · have v := v.1 c
    refine zg_iload_n (q := 148) C dX8_bestOf_147 rfl rfl ?_
    refine zg_istore_n (q := 149) C dX8_bestOf_148 (by decide) rfl ?_
    refine zg_iinc (v := 1) (q := 152) C dX8_bestOf_149 rfl (by decide) (by decide) rfl ?_
    refine zg_goto (t := 11) C dX8_bestOf_152 (by decide) ?_
    exact zg_mask [true, true, true, true, false, false, false, false] v
  · have v := v.2 c
    refine zg_iload (q := 140) C dX8_bestOf_138 rfl rfl ?_
    refine zg_if_eq (t := 147) (q := 143) C dX8_bestOf_140 (by decide) rfl (fun c => ?_) (fun c => ?_)
    · have v := v.1 c
      refine zg_iload_n (q := 148) C dX8_bestOf_147 rfl rfl ?_
      refine zg_istore_n (q := 149) C dX8_bestOf_148 (by decide) rfl ?_
      refine zg_iinc (v := 1) (q := 152) C dX8_bestOf_149 rfl (by decide) (by decide) rfl ?_
      refine zg_goto (t := 11) C dX8_bestOf_152 (by decide) ?_
      exact zg_mask [true, true, true, true, false, false, false, false] v
    · have v := v.2 c
      refine zg_iload_n (q := 144) C dX8_bestOf_143 rfl rfl ?_
      refine zg_goto (t := 148) C dX8_bestOf_144 (by decide) ?_
      refine zg_istore_n (q := 149) C dX8_bestOf_148 (by decide) rfl ?_
      refine zg_iinc (v := 1) (q := 152) C dX8_bestOf_149 rfl (by decide) (by decide) rfl ?_
      refine zg_goto (t := 11) C dX8_bestOf_152 (by decide) ?_
      exact zg_mask [true, true, true, true, false, false, false, false] v
set_option maxRecDepth 100000 in
set_option maxHeartbeats 4000000 in
theorem zsX8_bestOf_126 {E : Wd} {X : Mx} {d : Nat} {Q : Int32 → Hp → Prop} (C : zz_C E X YX8_bestOf (d + 1) 0 0 (fun r h' => ∃ x : Int32, r = some (.int x) ∧ Q x h')) (a0 : Nat) (x1 : Int32) (x2 : Int32) (x3 : Int32) (x5 : Int32) (h : Hp) (v : vcX8_bestOf_126 E d (zkX8_bestOf_11 E X) a0 x1 x2 x3 x5 h Q) : GG E X 8 0 0 126 [some (.ref a0), some (.int x1), some (.int x2), some (.int x3), none, some (.int x5), none, none] [] h := by
  refine zg_iconst (v := 1) (q := 127) C dX8_bestOf_126 (by decide) rfl ?_
  refine zg_goto (t := 131) C dX8_bestOf_127 (by decide) ?_
  exact zg_mask [true, true, true, true, false, true, false, false] (zsX8_bestOf_131 C _ _ _ _ _ _ _ v)
set_option maxRecDepth 100000 in
set_option maxHeartbeats 4000000 in
theorem zsX8_bestOf_130 {E : Wd} {X : Mx} {d : Nat} {Q : Int32 → Hp → Prop} (C : zz_C E X YX8_bestOf (d + 1) 0 0 (fun r h' => ∃ x : Int32, r = some (.int x) ∧ Q x h')) (a0 : Nat) (x1 : Int32) (x2 : Int32) (x3 : Int32) (x5 : Int32) (h : Hp) (v : vcX8_bestOf_130 E d (zkX8_bestOf_11 E X) a0 x1 x2 x3 x5 h Q) : GG E X 8 0 0 130 [some (.ref a0), some (.int x1), some (.int x2), some (.int x3), none, some (.int x5), none, none] [] h := by
  refine zg_iconst (v := 0) (q := 131) C dX8_bestOf_130 (by decide) rfl ?_
  exact zg_mask [true, true, true, true, false, true, false, false] (zsX8_bestOf_131 C _ _ _ _ _ _ _ v)
set_option maxRecDepth 100000 in
set_option maxHeartbeats 4000000 in
theorem zsX8_bestOf_104 {E : Wd} {X : Mx} {d : Nat} {Q : Int32 → Hp → Prop} (C : zz_C E X YX8_bestOf (d + 1) 0 0 (fun r h' => ∃ x : Int32, r = some (.int x) ∧ Q x h')) (a0 : Nat) (x1 : Int32) (x2 : Int32) (x3 : Int32) (x4 : Int32) (x5 : Int32) (x6 : Int32) (h : Hp) (v : vcX8_bestOf_104 E d (zkX8_bestOf_11 E X) a0 x1 x2 x3 x4 x5 x6 h Q) : GG E X 8 0 0 104 [some (.ref a0), some (.int x1), some (.int x2), some (.int x3), some (.int x4), some (.int x5), some (.int x6), none] [] h := by
  refine zg_aload_n (q := 105) C dX8_bestOf_104 rfl rfl ?_
  refine zg_get (j := 17) (q := 108) C bX8 (by decide) lkX8_52 dX8_bestOf_105 rfl (okA.get v.1) ?_
  have v := v.2
  refine zg_iload_n (q := 109) C dX8_bestOf_108 rfl rfl ?_
  refine zg_iald (q := 110) C dX8_bestOf_109 rfl v.1 ?_
  have v := v.2
  refine zg_iconst (v := (-1)) (q := 111) C dX8_bestOf_110 (by decide) rfl ?_
  refine zg_icmp_ne (t := 130) (q := 114) C dX8_bestOf_111 (by decide) rfl (fun c => ?_) (fun c => ?_)
  · have v := v.1 c
    exact zg_mask [true, true, true, true, false, true, false, false] (zsX8_bestOf_130 C _ _ _ _ _ _ v)
  · have v := v.2 c
    refine zg_aload_n (q := 115) C dX8_bestOf_114 rfl rfl ?_
    refine zg_get (j := 18) (q := 118) C bX8 (by decide) lkX8_55 dX8_bestOf_115 rfl (okA.get v.1) ?_
    have v := v.2
    refine zg_iload (q := 120) C dX8_bestOf_118 rfl rfl ?_
    refine zg_iald (q := 121) C dX8_bestOf_120 rfl v.1 ?_
    have v := v.2
    refine zg_iload (q := 123) C dX8_bestOf_121 rfl rfl ?_
    refine zg_icmp_le (t := 130) (q := 126) C dX8_bestOf_123 (by decide) rfl (fun c => ?_) (fun c => ?_)
    · have v := v.1 c
      exact zg_mask [true, true, true, true, false, true, false, false] (zsX8_bestOf_130 C _ _ _ _ _ _ v)
    · have v := v.2 c
      exact zg_mask [true, true, true, true, false, true, false, false] (zsX8_bestOf_126 C _ _ _ _ _ _ v)
set_option maxRecDepth 100000 in
set_option maxHeartbeats 4000000 in
theorem zsX8_bestOf_76 {E : Wd} {X : Mx} {d : Nat} {Q : Int32 → Hp → Prop} (C : zz_C E X YX8_bestOf (d + 1) 0 0 (fun r h' => ∃ x : Int32, r = some (.int x) ∧ Q x h')) (a0 : Nat) (x1 : Int32) (x2 : Int32) (x3 : Int32) (x4 : Int32) (x5 : Int32) (s0 : Int32) (h : Hp) (v : vcX8_bestOf_76 E d (zkX8_bestOf_11 E X) a0 x1 x2 x3 x4 x5 s0 h Q) : GG E X 8 0 0 76 [some (.ref a0), some (.int x1), some (.int x2), some (.int x3), some (.int x4), some (.int x5), none, none] [.int s0] h := by
  refine zg_istore (q := 78) C dX8_bestOf_76 (by decide) rfl ?_
  refine zg_iload_n (q := 79) C dX8_bestOf_78 rfl rfl ?_
  refine zg_if_lt (t := 126) (q := 82) C dX8_bestOf_79 (by decide) rfl (fun c => ?_) (fun c => ?_)
  · have v := v.1 c
    exact zg_mask [true, true, true, true, false, true, false, false] (zsX8_bestOf_126 C _ _ _ _ _ _ v)
  · have v := v.2 c
    refine zg_aload_n (q := 83) C dX8_bestOf_82 rfl rfl ?_
    refine zg_get (j := 17) (q := 86) C bX8 (by decide) lkX8_52 dX8_bestOf_83 rfl (okA.get v.1) ?_
    have v := v.2
    refine zg_iload_n (q := 87) C dX8_bestOf_86 rfl rfl ?_
    refine zg_iald (q := 88) C dX8_bestOf_87 rfl v.1 ?_
    have v := v.2
    refine zg_iconst (v := 1) (q := 89) C dX8_bestOf_88 (by decide) rfl ?_
    refine zg_icmp_ne (t := 104) (q := 92) C dX8_bestOf_89 (by decide) rfl (fun c => ?_) (fun c => ?_)
    · have v := v.1 c
      exact zg_mask [true, true, true, true, true, true, true, false] (zsX8_bestOf_104 C _ _ _ _ _ _ _ _ v)
    · have v := v.2 c
      refine zg_aload_n (q := 93) C dX8_bestOf_92 rfl rfl ?_
      refine zg_get (j := 18) (q := 96) C bX8 (by decide) lkX8_55 dX8_bestOf_93 rfl (okA.get v.1) ?_
      have v := v.2
      refine zg_iload (q := 98) C dX8_bestOf_96 rfl rfl ?_
      refine zg_iald (q := 99) C dX8_bestOf_98 rfl v.1 ?_
      have v := v.2
      refine zg_iload (q := 101) C dX8_bestOf_99 rfl rfl ?_
      refine zg_icmp_lt (t := 126) (q := 104) C dX8_bestOf_101 (by decide) rfl (fun c => ?_) (fun c => ?_)
      · have v := v.1 c
        exact zg_mask [true, true, true, true, false, true, false, false] (zsX8_bestOf_126 C _ _ _ _ _ _ v)
      · have v := v.2 c
        exact zg_mask [true, true, true, true, true, true, true, false] (zsX8_bestOf_104 C _ _ _ _ _ _ _ _ v)
set_option maxRecDepth 100000 in
set_option maxHeartbeats 4000000 in
theorem zsX8_bestOf_53 {E : Wd} {X : Mx} {d : Nat} {Q : Int32 → Hp → Prop} (C : zz_C E X YX8_bestOf (d + 1) 0 0 (fun r h' => ∃ x : Int32, r = some (.int x) ∧ Q x h')) (a0 : Nat) (x1 : Int32) (x2 : Int32) (x3 : Int32) (x4 : Int32) (s0 : Int32) (h : Hp) (v : vcX8_bestOf_53 E d (zkX8_bestOf_11 E X) a0 x1 x2 x3 x4 s0 h Q) : GG E X 8 0 0 53 [some (.ref a0), some (.int x1), some (.int x2), some (.int x3), some (.int x4), none, none, none] [.int s0] h := by
  refine zg_istore (q := 55) C dX8_bestOf_53 (by decide) rfl ?_
  refine zg_iload_n (q := 56) C dX8_bestOf_55 rfl rfl ?_
  refine zg_if_ge (t := 63) (q := 59) C dX8_bestOf_56 (by decide) rfl (fun c => ?_) (fun c => ?_)
  · have v := v.1 c
    refine zg_aload_n (q := 64) C dX8_bestOf_63 rfl rfl ?_
    refine zg_get (j := 18) (q := 67) C bX8 (by decide) lkX8_55 dX8_bestOf_64 rfl (okA.get v.1) ?_
    have v := v.2
    refine zg_aload_n (q := 68) C dX8_bestOf_67 rfl rfl ?_
    refine zg_get (j := 13) (q := 71) C bX8 (by decide) lkX8_39 dX8_bestOf_68 rfl (okA.get v.1) ?_
    have v := v.2
    refine zg_iconst (v := 0) (q := 72) C dX8_bestOf_71 (by decide) rfl ?_
    refine zg_aald (q := 73) C dX8_bestOf_72 rfl v.1 ?_
    have v := v.2
    refine zg_iload_n (q := 74) C dX8_bestOf_73 rfl rfl ?_
    refine zg_iald (q := 75) C dX8_bestOf_74 rfl v.1 ?_
    have v := v.2
    refine zg_iald (q := 76) C dX8_bestOf_75 rfl v.1 ?_
    have v := v.2
    exact zg_mask [true, true, true, true, true, true, false, false] (zsX8_bestOf_76 C _ _ _ _ _ _ _ _ v)
  · have v := v.2 c
    refine zg_iconst (v := 0) (q := 60) C dX8_bestOf_59 (by decide) rfl ?_
    refine zg_goto (t := 76) C dX8_bestOf_60 (by decide) ?_
    exact zg_mask [true, true, true, true, true, true, false, false] (zsX8_bestOf_76 C _ _ _ _ _ _ _ _ v)
set_option maxRecDepth 100000 in
set_option maxHeartbeats 4000000 in
theorem zsX8_bestOf_11 {E : Wd} {X : Mx} {d : Nat} {Q : Int32 → Hp → Prop} (C : zz_C E X YX8_bestOf (d + 1) 0 0 (fun r h' => ∃ x : Int32, r = some (.int x) ∧ Q x h')) (a0 : Nat) (x1 : Int32) (x2 : Int32) (x3 : Int32) (h : Hp) (v : vcX8_bestOf_11 E d (zkX8_bestOf_11 E X) a0 x1 x2 x3 h Q) : GG E X 8 0 0 11 [some (.ref a0), some (.int x1), some (.int x2), some (.int x3), none, none, none, none] [] h := by
  refine zg_iload_n (q := 12) C dX8_bestOf_11 rfl rfl ?_
  refine zg_aload_n (q := 13) C dX8_bestOf_12 rfl rfl ?_
  refine zg_get (j := 9) (q := 16) C bX8 (by decide) lkX8_27 dX8_bestOf_13 rfl (okA.get v.1) ?_
  have v := v.2
  refine zg_iconst (v := 0) (q := 17) C dX8_bestOf_16 (by decide) rfl ?_
  refine zg_iald (q := 18) C dX8_bestOf_17 rfl v.1 ?_
  have v := v.2
  refine zg_icmp_ge (t := 155) (q := 21) C dX8_bestOf_18 (by decide) rfl (fun c => ?_) (fun c => ?_)
  · have v := v.1 c
    refine zg_iload_n (q := 156) C dX8_bestOf_155 rfl rfl ?_
    exact zg_iret C rfl dX8_bestOf_156 ⟨Nat.le_refl _, Nat.le_refl _⟩ ⟨_, rfl, v⟩
  · have v := v.2 c
    refine zg_aload_n (q := 22) C dX8_bestOf_21 rfl rfl ?_
    refine zg_get (j := 13) (q := 25) C bX8 (by decide) lkX8_39 dX8_bestOf_22 rfl (okA.get v.1) ?_
    have v := v.2
    refine zg_iconst (v := 0) (q := 26) C dX8_bestOf_25 (by decide) rfl ?_
    refine zg_aald (q := 27) C dX8_bestOf_26 rfl v.1 ?_
    have v := v.2
    refine zg_iload_n (q := 28) C dX8_bestOf_27 rfl rfl ?_
    refine zg_iald (q := 29) C dX8_bestOf_28 rfl v.1 ?_
    have v := v.2
    refine zg_istore (q := 31) C dX8_bestOf_29 (by decide) rfl ?_
    refine zg_aload_n (q := 32) C dX8_bestOf_31 rfl rfl ?_
    refine zg_get (j := 17) (q := 35) C bX8 (by decide) lkX8_52 dX8_bestOf_32 rfl (okA.get v.1) ?_
    have v := v.2
    refine zg_iload (q := 37) C dX8_bestOf_35 rfl rfl ?_
    refine zg_iald (q := 38) C dX8_bestOf_37 rfl v.1 ?_
    have v := v.2
    refine zg_aload_n (q := 39) C dX8_bestOf_38 rfl rfl ?_
    refine zg_get (j := 17) (q := 42) C bX8 (by decide) lkX8_52 dX8_bestOf_39 rfl (okA.get v.1) ?_
    have v := v.2
    refine zg_iload_n (q := 43) C dX8_bestOf_42 rfl rfl ?_
    refine zg_iald (q := 44) C dX8_bestOf_43 rfl v.1 ?_
    have v := v.2
    refine zg_ineg (q := 45) C dX8_bestOf_44 rfl ?_
    refine zg_icmp_ne (t := 52) (q := 48) C dX8_bestOf_45 (by decide) rfl (fun c => ?_) (fun c => ?_)
    · have v := v.1 c
      refine zg_iconst (v := 0) (q := 53) C dX8_bestOf_52 (by decide) rfl ?_
      exact zg_mask [true, true, true, true, true, false, false, false] (zsX8_bestOf_53 C _ _ _ _ _ _ _ v)
    · have v := v.2 c
      refine zg_iconst (v := 1) (q := 49) C dX8_bestOf_48 (by decide) rfl ?_
      refine zg_goto (t := 53) C dX8_bestOf_49 (by decide) ?_
      exact zg_mask [true, true, true, true, true, false, false, false] (zsX8_bestOf_53 C _ _ _ _ _ _ _ v)
theorem rnX8_bestOf {E : Wd} {d : Nat} {a0 : Nat} {x1 : Int32} {h : Hp} {Q : Int32 → Hp → Prop} (k : ∀ (K11 : Nat → Int32 → Int32 → Int32 → Hp → Prop),(∀ (a0 : Nat) (x1 : Int32) (x2 : Int32) (x3 : Int32) h, vcX8_bestOf_11 E d K11 a0 x1 x2 x3 h Q → K11 a0 x1 x2 x3 h) → vcX8_bestOf_0 E d K11 a0 x1 h Q) : OkI E YX8_bestOf (d + 1) [.ref a0, .int x1] h Q :=
  zz_body2 (r := 6) mX8_bestOf (zc_a (zc_i zc_n)) (Nat.le_of_ble_eq_true rfl) (fun X C => zsX8_bestOf_0 C a0 x1 h (k (zkX8_bestOf_11 E X) (fun a0 x1 x2 x3 h v => zsX8_bestOf_11 C a0 x1 x2 x3 h v)))
def vcX8_best_0 (E : Wd) (d : Nat) (a0 : Nat) (h : Hp) (Q : Int32 → Hp → Prop) : Prop :=
  isO h a0 8 ∧ OkI E YX8_isPlaying d [.ref a0] h (fun r2 h1 => (r2 = (0 : Int32) → Q ((-3)) h1) ∧ (¬ r2 = (0 : Int32) → isO h1 a0 8 ∧ OkI E YX8_here d [.ref a0] h1 (fun r4 h3 => isO h3 a0 8 ∧ OkI E YX8_bestOf d [.ref a0, .int r4] h3 (fun r6 h5 => Q r6 h5))))
set_option maxRecDepth 100000 in
set_option maxHeartbeats 4000000 in
theorem zsX8_best_0 {E : Wd} {X : Mx} {d : Nat} {Q : Int32 → Hp → Prop} (C : zz_C E X YX8_best (d + 1) 0 0 (fun r h' => ∃ x : Int32, r = some (.int x) ∧ Q x h')) (a0 : Nat) (h : Hp) (v : vcX8_best_0 E d a0 h Q) : GG E X 1 0 0 0 [some (.ref a0)] [] h := by
  refine zg_aload_n (q := 1) C dX8_best_0 rfl rfl ?_
  refine zg_cV0I (q := 4) C mX8_isPlaying vX8_isPlaying lmX8_257 rfl (bX8).1 v.1 (Nat.le_of_ble_eq_true rfl) ⟨Nat.le_refl _, Nat.le_refl _⟩ dX8_best_1 rfl v.2 (fun r2 h1 v => ?_)
  refine zg_if_eq (t := 18) (q := 7) C dX8_best_4 (by decide) rfl (fun c => ?_) (fun c => ?_)
  · have v := v.1 c
    refine zg_bipush (v := (-3)) (q := 20) C dX8_best_18 (by decide) rfl ?_
    exact zg_iret C rfl dX8_best_20 ⟨Nat.le_refl _, Nat.le_refl _⟩ ⟨_, rfl, v⟩
  · have v := v.2 c
    refine zg_aload_n (q := 8) C dX8_best_7 rfl rfl ?_
    refine zg_aload_n (q := 9) C dX8_best_8 rfl rfl ?_
    refine zg_cV0I (q := 12) C mX8_here vX8_here lmX8_260 rfl (bX8).1 v.1 (Nat.le_of_ble_eq_true rfl) ⟨Nat.le_refl _, Nat.le_refl _⟩ dX8_best_9 rfl v.2 (fun r4 h3 v => ?_)
    refine zg_cV1I (q := 15) C mX8_bestOf vX8_bestOf lmX8_275 rfl (bX8).1 v.1 (Nat.le_of_ble_eq_true rfl) ⟨Nat.le_refl _, Nat.le_refl _⟩ dX8_best_12 rfl v.2 (fun r6 h5 v => ?_)
    refine zg_goto (t := 20) C dX8_best_15 (by decide) ?_
    exact zg_iret C rfl dX8_best_20 ⟨Nat.le_refl _, Nat.le_refl _⟩ ⟨_, rfl, v⟩
theorem rnX8_best {E : Wd} {d : Nat} {a0 : Nat} {h : Hp} {Q : Int32 → Hp → Prop} (k : vcX8_best_0 E d a0 h Q) : OkI E YX8_best (d + 1) [.ref a0] h Q :=
  zz_body2 (r := 0) mX8_best (zc_a zc_n) (Nat.le_of_ble_eq_true rfl) (fun X C => zsX8_best_0 C a0 h k)
def vcX8_findLine_0 (E : Wd) (d : Nat) (K14 : Nat → Int32 → Int32 → Hp → Prop) (K66 : Nat → Int32 → Int32 → Int32 → Int32 → Hp → Prop) (a0 : Nat) (h : Hp) (Q : Int32 → Hp → Prop) : Prop :=
  okA h a0 8 29 ∧ isO h a0 8 ∧ OkI E YX8_here d [.ref a0] h (fun r2 h1 => okR E h1 (fA h a0 29) 0 0 ∧ ∀ h3, h3 = sA h1 (fA h a0 29) 0 r2 → K14 a0 0 1 h3)
def vcX8_findLine_44 (E : Wd) (d : Nat) (K14 : Nat → Int32 → Int32 → Hp → Prop) (K66 : Nat → Int32 → Int32 → Int32 → Int32 → Hp → Prop) (a0 : Nat) (x1 : Int32) (x3 : Int32) (s0 : Int32) (h : Hp) (Q : Int32 → Hp → Prop) : Prop :=
  (s0 = (0 : Int32) → K66 a0 x1 s0 0 0 h) ∧ (¬ s0 = (0 : Int32) → okA h a0 8 13 ∧ okW E h (fA h a0 13) 0 ∧ okR E h (gW h (fA h a0 13) 0) 0 x3 ∧ K66 a0 x1 s0 (gA h (gW h (fA h a0 13) 0) x3) 0 h)
def vcX8_findLine_14 (E : Wd) (d : Nat) (K14 : Nat → Int32 → Int32 → Hp → Prop) (K66 : Nat → Int32 → Int32 → Int32 → Int32 → Hp → Prop) (a0 : Nat) (x1 : Int32) (x2 : Int32) (h : Hp) (Q : Int32 → Hp → Prop) : Prop :=
  (x2 = (0 : Int32) → Q x1 h) ∧ (¬ x2 = (0 : Int32) → ((60 : Int32) ≤ x1 → Q x1 h) ∧ (¬ (60 : Int32) ≤ x1 → okA h a0 8 29 ∧ okR E h (fA h a0 29) 0 x1 ∧ isO h a0 8 ∧ OkI E YX8_bestOf d [.ref a0, .int (gA h (fA h a0 29) x1)] h (fun r2 h1 => (r2 < (0 : Int32) → vcX8_findLine_44 E d K14 K66 a0 x1 r2 0 h1 Q) ∧ (¬ r2 < (0 : Int32) → vcX8_findLine_44 E d K14 K66 a0 x1 r2 1 h1 Q))))
def vcX8_findLine_66 (E : Wd) (d : Nat) (K14 : Nat → Int32 → Int32 → Hp → Prop) (K66 : Nat → Int32 → Int32 → Int32 → Int32 → Hp → Prop) (a0 : Nat) (x1 : Int32) (x2 : Int32) (x4 : Int32) (x5 : Int32) (h : Hp) (Q : Int32 → Hp → Prop) : Prop :=
  (x1 < x5 → (x2 = (0 : Int32) → K14 a0 x1 x2 h) ∧ (¬ x2 = (0 : Int32) → okA h a0 8 29 ∧ okR E h (fA h a0 29) 0 (x1 + 1) ∧ ∀ h1, h1 = sA h (fA h a0 29) (x1 + 1) x4 → K14 a0 (x1 + 1) x2 h1)) ∧ (¬ x1 < x5 → okA h a0 8 29 ∧ okR E h (fA h a0 29) 0 x5 ∧ ((gA h (fA h a0 29) x5) = x4 → K66 a0 x1 (x2 &&& (0 : Int32)) x4 (x5 + 1) h) ∧ (¬ (gA h (fA h a0 29) x5) = x4 → K66 a0 x1 (x2 &&& (1 : Int32)) x4 (x5 + 1) h))
def zkX8_findLine_14 (E : Wd) (X : Mx) : Nat → Int32 → Int32 → Hp → Prop := fun a0 x1 x2 h => GG E X 6 0 0 14 [some (.ref a0), some (.int x1), some (.int x2), none, none, none] [] h
def zkX8_findLine_66 (E : Wd) (X : Mx) : Nat → Int32 → Int32 → Int32 → Int32 → Hp → Prop := fun a0 x1 x2 x4 x5 h => GG E X 6 0 0 66 [some (.ref a0), some (.int x1), some (.int x2), none, some (.int x4), some (.int x5)] [] h
set_option maxRecDepth 100000 in
set_option maxHeartbeats 4000000 in
theorem zsX8_findLine_0 {E : Wd} {X : Mx} {d : Nat} {Q : Int32 → Hp → Prop} (C : zz_C E X YX8_findLine (d + 1) 0 0 (fun r h' => ∃ x : Int32, r = some (.int x) ∧ Q x h')) (a0 : Nat) (h : Hp) (v : vcX8_findLine_0 E d (zkX8_findLine_14 E X) (zkX8_findLine_66 E X) a0 h Q) : GG E X 6 0 0 0 [some (.ref a0), none, none, none, none, none] [] h := by
  refine zg_aload_n (q := 1) C dX8_findLine_0 rfl rfl ?_
  refine zg_get (j := 29) (q := 4) C bX8 (by decide) lkX8_83 dX8_findLine_1 rfl (okA.get v.1) ?_
  have v := v.2
  refine zg_iconst (v := 0) (q := 5) C dX8_findLine_4 (by decide) rfl ?_
  refine zg_aload_n (q := 6) C dX8_findLine_5 rfl rfl ?_
  refine zg_cV0I (q := 9) C mX8_here vX8_here lmX8_260 rfl (bX8).1 v.1 (Nat.le_of_ble_eq_true rfl) ⟨Nat.le_refl _, Nat.le_refl _⟩ dX8_findLine_6 rfl v.2 (fun r2 h1 v => ?_)
  refine zg_iast (q := 10) C dX8_findLine_9 rfl v.1 ?_
  have v := v.2 _ rfl
  refine zg_iconst (v := 0) (q := 11) C dX8_findLine_10 (by decide) rfl ?_
  refine zg_istore_n (q := 12) C dX8_findLine_11 (by decide) rfl ?_
  refine zg_iconst (v := 1) (q := 13) C dX8_findLine_12 (by decide) rfl ?_
  refine zg_istore_n (q := 14) C dX8_findLine_13 (by decide) rfl ?_
  exact zg_mask [true, true, true, false, false, false] v
set_option maxRecDepth 100000 in
set_option maxHeartbeats 4000000 in
theorem zsX8_findLine_44 {E : Wd} {X : Mx} {d : Nat} {Q : Int32 → Hp → Prop} (C : zz_C E X YX8_findLine (d + 1) 0 0 (fun r h' => ∃ x : Int32, r = some (.int x) ∧ Q x h')) (a0 : Nat) (x1 : Int32) (x3 : Int32) (s0 : Int32) (h : Hp) (v : vcX8_findLine_44 E d (zkX8_findLine_14 E X) (zkX8_findLine_66 E X) a0 x1 x3 s0 h Q) : GG E X 6 0 0 44 [some (.ref a0), some (.int x1), none, some (.int x3), none, none] [.int s0] h := by
  refine zg_istore_n (q := 45) C dX8_findLine_44 (by decide) rfl ?_
  refine zg_iload_n (q := 46) C dX8_findLine_45 rfl rfl ?_
  refine zg_if_eq (t := 60) (q := 49) C dX8_findLine_46 (by decide) rfl (fun c => ?_) (fun c => ?_)
  · have v := v.1 c
    refine zg_iconst (v := 0) (q := 61) C dX8_findLine_60 (by decide) rfl ?_
    refine zg_istore (q := 63) C dX8_findLine_61 (by decide) rfl ?_
    refine zg_iconst (v := 0) (q := 64) C dX8_findLine_63 (by decide) rfl ?_
    refine zg_istore (q := 66) C dX8_findLine_64 (by decide) rfl ?_
    exact zg_mask [true, true, true, false, true, true] v
  · have v := v.2 c
    refine zg_aload_n (q := 50) C dX8_findLine_49 rfl rfl ?_
    refine zg_get (j := 13) (q := 53) C bX8 (by decide) lkX8_39 dX8_findLine_50 rfl (okA.get v.1) ?_
    have v := v.2
    refine zg_iconst (v := 0) (q := 54) C dX8_findLine_53 (by decide) rfl ?_
    refine zg_aald (q := 55) C dX8_findLine_54 rfl v.1 ?_
    have v := v.2
    refine zg_iload_n (q := 56) C dX8_findLine_55 rfl rfl ?_
    refine zg_iald (q := 57) C dX8_findLine_56 rfl v.1 ?_
    have v := v.2
    refine zg_goto (t := 61) C dX8_findLine_57 (by decide) ?_
    refine zg_istore (q := 63) C dX8_findLine_61 (by decide) rfl ?_
    refine zg_iconst (v := 0) (q := 64) C dX8_findLine_63 (by decide) rfl ?_
    refine zg_istore (q := 66) C dX8_findLine_64 (by decide) rfl ?_
    exact zg_mask [true, true, true, false, true, true] v
set_option maxRecDepth 100000 in
set_option maxHeartbeats 4000000 in
theorem zsX8_findLine_14 {E : Wd} {X : Mx} {d : Nat} {Q : Int32 → Hp → Prop} (C : zz_C E X YX8_findLine (d + 1) 0 0 (fun r h' => ∃ x : Int32, r = some (.int x) ∧ Q x h')) (a0 : Nat) (x1 : Int32) (x2 : Int32) (h : Hp) (v : vcX8_findLine_14 E d (zkX8_findLine_14 E X) (zkX8_findLine_66 E X) a0 x1 x2 h Q) : GG E X 6 0 0 14 [some (.ref a0), some (.int x1), some (.int x2), none, none, none] [] h := by
  refine zg_iload_n (q := 15) C dX8_findLine_14 rfl rfl ?_
  refine zg_if_eq (t := 116) (q := 18) C dX8_findLine_15 (by decide) rfl (fun c => ?_) (fun c => ?_)
  · have v := v.1 c
    refine zg_iload_n (q := 117) C dX8_findLine_116 rfl rfl ?_
    exact zg_iret C rfl dX8_findLine_117 ⟨Nat.le_refl _, Nat.le_refl _⟩ ⟨_, rfl, v⟩
  · have v := v.2 c
    refine zg_iload_n (q := 19) C dX8_findLine_18 rfl rfl ?_
    refine zg_bipush (v := 60) (q := 21) C dX8_findLine_19 (by decide) rfl ?_
    refine zg_icmp_ge (t := 116) (q := 24) C dX8_findLine_21 (by decide) rfl (fun c => ?_) (fun c => ?_)
    · have v := v.1 c
      refine zg_iload_n (q := 117) C dX8_findLine_116 rfl rfl ?_
      exact zg_iret C rfl dX8_findLine_117 ⟨Nat.le_refl _, Nat.le_refl _⟩ ⟨_, rfl, v⟩
    · have v := v.2 c
      refine zg_aload_n (q := 25) C dX8_findLine_24 rfl rfl ?_
      refine zg_aload_n (q := 26) C dX8_findLine_25 rfl rfl ?_
      refine zg_get (j := 29) (q := 29) C bX8 (by decide) lkX8_83 dX8_findLine_26 rfl (okA.get v.1) ?_
      have v := v.2
      refine zg_iload_n (q := 30) C dX8_findLine_29 rfl rfl ?_
      refine zg_iald (q := 31) C dX8_findLine_30 rfl v.1 ?_
      have v := v.2
      refine zg_cV1I (q := 34) C mX8_bestOf vX8_bestOf lmX8_275 rfl (bX8).1 v.1 (Nat.le_of_ble_eq_true rfl) ⟨Nat.le_refl _, Nat.le_refl _⟩ dX8_findLine_31 rfl v.2 (fun r2 h1 v => ?_)
      refine zg_istore_n (q := 35) C dX8_findLine_34 (by decide) rfl ?_
      refine zg_iload_n (q := 36) C dX8_findLine_35 rfl rfl ?_
      refine zg_if_lt (t := 43) (q := 39) C dX8_findLine_36 (by decide) rfl (fun c => ?_) (fun c => ?_)
      · have v := v.1 c
        refine zg_iconst (v := 0) (q := 44) C dX8_findLine_43 (by decide) rfl ?_
        exact zg_mask [true, true, false, true, false, false] (zsX8_findLine_44 C _ _ _ _ _ v)
      · have v := v.2 c
        refine zg_iconst (v := 1) (q := 40) C dX8_findLine_39 (by decide) rfl ?_
        refine zg_goto (t := 44) C dX8_findLine_40 (by decide) ?_
        exact zg_mask [true, true, false, true, false, false] (zsX8_findLine_44 C _ _ _ _ _ v)
set_option maxRecDepth 100000 in
set_option maxHeartbeats 4000000 in
theorem zsX8_findLine_66 {E : Wd} {X : Mx} {d : Nat} {Q : Int32 → Hp → Prop} (C : zz_C E X YX8_findLine (d + 1) 0 0 (fun r h' => ∃ x : Int32, r = some (.int x) ∧ Q x h')) (a0 : Nat) (x1 : Int32) (x2 : Int32) (x4 : Int32) (x5 : Int32) (h : Hp) (v : vcX8_findLine_66 E d (zkX8_findLine_14 E X) (zkX8_findLine_66 E X) a0 x1 x2 x4 x5 h Q) : GG E X 6 0 0 66 [some (.ref a0), some (.int x1), some (.int x2), none, some (.int x4), some (.int x5)] [] h := by
  refine zg_iload (q := 68) C dX8_findLine_66 rfl rfl ?_
  refine zg_iload_n (q := 69) C dX8_findLine_68 rfl rfl ?_
  refine zg_icmp_gt (t := 98) (q := 72) C dX8_findLine_69 (by decide) rfl (fun c => ?_) (fun c => ?_)
  · have v := v.1 c
    refine zg_iload_n (q := 99) C dX8_findLine_98 rfl rfl ?_
    refine zg_if_eq (t := 113) (q := 102) C dX8_findLine_99 (by decide) rfl (fun c => ?_) (fun c => ?_)
    · have v := v.1 c
      refine zg_goto (t := 14) C dX8_findLine_113 (by decide) ?_
      exact zg_mask [true, true, true, false, false, false] v
    · have v := v.2 c
      refine zg_iinc (v := 1) (q := 105) C dX8_findLine_102 rfl (by decide) (by decide) rfl ?_
      refine zg_aload_n (q := 106) C dX8_findLine_105 rfl rfl ?_
      refine zg_get (j := 29) (q := 109) C bX8 (by decide) lkX8_83 dX8_findLine_106 rfl (okA.get v.1) ?_
      have v := v.2
      refine zg_iload_n (q := 110) C dX8_findLine_109 rfl rfl ?_
      refine zg_iload (q := 112) C dX8_findLine_110 rfl rfl ?_
      refine zg_iast (q := 113) C dX8_findLine_112 rfl v.1 ?_
      have v := v.2 _ rfl
      refine zg_goto (t := 14) C dX8_findLine_113 (by decide) ?_
      exact zg_mask [true, true, true, false, false, false] v
  · have v := v.2 c
    refine zg_iload_n (q := 73) C dX8_findLine_72 rfl rfl ?_
    refine zg_aload_n (q := 74) C dX8_findLine_73 rfl rfl ?_
    refine zg_get (j := 29) (q := 77) C bX8 (by decide) lkX8_83 dX8_findLine_74 rfl (okA.get v.1) ?_
    have v := v.2
    refine zg_iload (q := 79) C dX8_findLine_77 rfl rfl ?_
    refine zg_iald (q := 80) C dX8_findLine_79 rfl v.1 ?_
    have v := v.2
    refine zg_iload (q := 82) C dX8_findLine_80 rfl rfl ?_
    refine zg_icmp_eq (t := 89) (q := 85) C dX8_findLine_82 (by decide) rfl (fun c => ?_) (fun c => ?_)
    · have v := v.1 c
      refine zg_iconst (v := 0) (q := 90) C dX8_findLine_89 (by decide) rfl ?_
      refine zg_iand (q := 91) C dX8_findLine_90 rfl ?_
      refine zg_istore_n (q := 92) C dX8_findLine_91 (by decide) rfl ?_
      refine zg_iinc (v := 1) (q := 95) C dX8_findLine_92 rfl (by decide) (by decide) rfl ?_
      refine zg_goto (t := 66) C dX8_findLine_95 (by decide) ?_
      exact zg_mask [true, true, true, false, true, true] v
    · have v := v.2 c
      refine zg_iconst (v := 1) (q := 86) C dX8_findLine_85 (by decide) rfl ?_
      refine zg_goto (t := 90) C dX8_findLine_86 (by decide) ?_
      refine zg_iand (q := 91) C dX8_findLine_90 rfl ?_
      refine zg_istore_n (q := 92) C dX8_findLine_91 (by decide) rfl ?_
      refine zg_iinc (v := 1) (q := 95) C dX8_findLine_92 rfl (by decide) (by decide) rfl ?_
      refine zg_goto (t := 66) C dX8_findLine_95 (by decide) ?_
      exact zg_mask [true, true, true, false, true, true] v
theorem rnX8_findLine {E : Wd} {d : Nat} {a0 : Nat} {h : Hp} {Q : Int32 → Hp → Prop} (k : ∀ (K14 : Nat → Int32 → Int32 → Hp → Prop) (K66 : Nat → Int32 → Int32 → Int32 → Int32 → Hp → Prop),(∀ (a0 : Nat) (x1 : Int32) (x2 : Int32) h, vcX8_findLine_14 E d K14 K66 a0 x1 x2 h Q → K14 a0 x1 x2 h) → (∀ (a0 : Nat) (x1 : Int32) (x2 : Int32) (x4 : Int32) (x5 : Int32) h, vcX8_findLine_66 E d K14 K66 a0 x1 x2 x4 x5 h Q → K66 a0 x1 x2 x4 x5 h) → vcX8_findLine_0 E d K14 K66 a0 h Q) : OkI E YX8_findLine (d + 1) [.ref a0] h Q :=
  zz_body2 (r := 5) mX8_findLine (zc_a zc_n) (Nat.le_of_ble_eq_true rfl) (fun X C => zsX8_findLine_0 C a0 h (k (zkX8_findLine_14 E X) (zkX8_findLine_66 E X) (fun a0 x1 x2 h v => zsX8_findLine_14 C a0 x1 x2 h v) (fun a0 x1 x2 x4 x5 h v => zsX8_findLine_66 C a0 x1 x2 x4 x5 h v)))
def vcX8_line_0 (E : Wd) (d : Nat) (a0 : Nat) (x1 : Int32) (h : Hp) (Q : Int32 → Hp → Prop) : Prop :=
  isO h a0 8 ∧ OkI E YX8_isPlaying d [.ref a0] h (fun r2 h1 => (¬ r2 = (0 : Int32) → isO h1 a0 8 ∧ OkI E YX8_findLine d [.ref a0] h1 (fun r4 h3 => (¬ x1 = ((-1)) → OkI E YX8_isBetween d [.int x1, .int 1, .int r4] h3 (fun r6 h5 => (r6 = (0 : Int32) → Q ((-1)) h5) ∧ (¬ r6 = (0 : Int32) → okA h5 a0 8 29 ∧ okR E h5 (fA h5 a0 29) 0 x1 ∧ Q (gA h5 (fA h5 a0 29) x1) h5))) ∧ (x1 = ((-1)) → Q r4 h3))) ∧ (r2 = (0 : Int32) → Q ((-3)) h1))
set_option maxRecDepth 100000 in
set_option maxHeartbeats 4000000 in
theorem zsX8_line_0 {E : Wd} {X : Mx} {d : Nat} {Q : Int32 → Hp → Prop} (C : zz_C E X YX8_line (d + 1) 0 0 (fun r h' => ∃ x : Int32, r = some (.int x) ∧ Q x h')) (a0 : Nat) (x1 : Int32) (h : Hp) (v : vcX8_line_0 E d a0 x1 h Q) : GG E X 3 0 0 0 [some (.ref a0), some (.int x1), none] [] h := by
  refine zg_aload_n (q := 1) C dX8_line_0 rfl rfl ?_
  refine zg_cV0I (q := 4) C mX8_isPlaying vX8_isPlaying lmX8_257 rfl (bX8).1 v.1 (Nat.le_of_ble_eq_true rfl) ⟨Nat.le_refl _, Nat.le_refl _⟩ dX8_line_1 rfl v.2 (fun r2 h1 v => ?_)
  refine zg_if_ne (t := 10) (q := 7) C dX8_line_4 (by decide) rfl (fun c => ?_) (fun c => ?_)
  · have v := v.1 c
    refine zg_aload_n (q := 11) C dX8_line_10 rfl rfl ?_
    refine zg_cV0I (q := 14) C mX8_findLine vX8_findLine lmX8_278 rfl (bX8).1 v.1 (Nat.le_of_ble_eq_true rfl) ⟨Nat.le_refl _, Nat.le_refl _⟩ dX8_line_11 rfl v.2 (fun r4 h3 v => ?_)
    refine zg_istore_n (q := 15) C dX8_line_14 (by decide) rfl ?_
    refine zg_iload_n (q := 16) C dX8_line_15 rfl rfl ?_
    refine zg_iconst (v := (-1)) (q := 17) C dX8_line_16 (by decide) rfl ?_
    refine zg_icmp_ne (t := 22) (q := 20) C dX8_line_17 (by decide) rfl (fun c => ?_) (fun c => ?_)
    · have v := v.1 c
      refine zg_iload_n (q := 23) C dX8_line_22 rfl rfl ?_
      refine zg_iconst (v := 1) (q := 24) C dX8_line_23 (by decide) rfl ?_
      refine zg_iload_n (q := 25) C dX8_line_24 rfl rfl ?_
      refine zg_cS3I (q := 28) C mX8_isBetween tX8_isBetween lmX8_86 rfl (Nat.le_of_ble_eq_true rfl) ⟨Nat.le_refl _, Nat.le_refl _⟩ dX8_line_25 rfl v (fun r6 h5 v => ?_)
      refine zg_if_eq (t := 40) (q := 31) C dX8_line_28 (by decide) rfl (fun c => ?_) (fun c => ?_)
      · have v := v.1 c
        refine zg_iconst (v := (-1)) (q := 41) C dX8_line_40 (by decide) rfl ?_
        exact zg_iret C rfl dX8_line_41 ⟨Nat.le_refl _, Nat.le_refl _⟩ ⟨_, rfl, v⟩
      · have v := v.2 c
        refine zg_aload_n (q := 32) C dX8_line_31 rfl rfl ?_
        refine zg_get (j := 29) (q := 35) C bX8 (by decide) lkX8_83 dX8_line_32 rfl (okA.get v.1) ?_
        have v := v.2
        refine zg_iload_n (q := 36) C dX8_line_35 rfl rfl ?_
        refine zg_iald (q := 37) C dX8_line_36 rfl v.1 ?_
        have v := v.2
        refine zg_goto (t := 41) C dX8_line_37 (by decide) ?_
        exact zg_iret C rfl dX8_line_41 ⟨Nat.le_refl _, Nat.le_refl _⟩ ⟨_, rfl, v⟩
    · have v := v.2 c
      refine zg_iload_n (q := 21) C dX8_line_20 rfl rfl ?_
      exact zg_iret C rfl dX8_line_21 ⟨Nat.le_refl _, Nat.le_refl _⟩ ⟨_, rfl, v⟩
  · have v := v.2 c
    refine zg_bipush (v := (-3)) (q := 9) C dX8_line_7 (by decide) rfl ?_
    exact zg_iret C rfl dX8_line_9 ⟨Nat.le_refl _, Nat.le_refl _⟩ ⟨_, rfl, v⟩
theorem rnX8_line {E : Wd} {d : Nat} {a0 : Nat} {x1 : Int32} {h : Hp} {Q : Int32 → Hp → Prop} (k : vcX8_line_0 E d a0 x1 h Q) : OkI E YX8_line (d + 1) [.ref a0, .int x1] h Q :=
  zz_body2 (r := 1) mX8_line (zc_a (zc_i zc_n)) (Nat.le_of_ble_eq_true rfl) (fun X C => zsX8_line_0 C a0 x1 h k)
def vcX8_searchFrom_0 (E : Wd) (d : Nat) (K39 : Nat → Int32 → Int32 → Int32 → Hp → Prop) (a0 : Nat) (x1 : Int32) (x2 : Int32) (h : Hp) (Q : Int32 → Hp → Prop) : Prop :=
  isO h a0 8 ∧ OkV E YX8_findMoves d [.ref a0, .int (x2 + (1 : Int32)), .int x1] h (fun h1 => okA h1 a0 8 9 ∧ okR E h1 (fA h1 a0 9) 0 (x2 + (1 : Int32)) ∧ (¬ (gA h1 (fA h1 a0 9) (x2 + (1 : Int32))) = (0 : Int32) → (¬ x2 = (0 : Int32) → K39 a0 x2 ((-1)) 0 h1) ∧ (x2 = (0 : Int32) → Q 0 h1)) ∧ ((gA h1 (fA h1 a0 9) (x2 + (1 : Int32))) = (0 : Int32) → isO h1 a0 8 ∧ OkI E YX8_endValue d [.ref a0, .int x1, .int (x2 + (1 : Int32))] h1 (fun r3 h2 => Q r3 h2)))
def vcX8_searchFrom_39 (E : Wd) (d : Nat) (K39 : Nat → Int32 → Int32 → Int32 → Hp → Prop) (a0 : Nat) (x2 : Int32) (x3 : Int32) (x4 : Int32) (h : Hp) (Q : Int32 → Hp → Prop) : Prop :=
  okA h a0 8 9 ∧ okR E h (fA h a0 9) 0 (x2 + (1 : Int32)) ∧ ((gA h (fA h a0 9) (x2 + (1 : Int32))) ≤ x4 → Q x3 h) ∧ (¬ (gA h (fA h a0 9) (x2 + (1 : Int32))) ≤ x4 → okA h a0 8 13 ∧ okW E h (fA h a0 13) (x2 + (1 : Int32)) ∧ okR E h (gW h (fA h a0 13) (x2 + (1 : Int32))) 0 x4 ∧ isO h a0 8 ∧ OkI E YX8_searchFrom d [.ref a0, .int (gA h (gW h (fA h a0 13) (x2 + (1 : Int32))) x4), .int (x2 - (1 : Int32))] h (fun r2 h1 => ((-r2) ≤ x3 → K39 a0 x2 x3 (x4 + 1) h1) ∧ (¬ (-r2) ≤ x3 → K39 a0 x2 (-r2) (x4 + 1) h1)))
def zkX8_searchFrom_39 (E : Wd) (X : Mx) : Nat → Int32 → Int32 → Int32 → Hp → Prop := fun a0 x2 x3 x4 h => GG E X 6 0 0 39 [some (.ref a0), none, some (.int x2), some (.int x3), some (.int x4), none] [] h
set_option maxRecDepth 100000 in
set_option maxHeartbeats 4000000 in
theorem zsX8_searchFrom_0 {E : Wd} {X : Mx} {d : Nat} {Q : Int32 → Hp → Prop} (C : zz_C E X YX8_searchFrom (d + 1) 0 0 (fun r h' => ∃ x : Int32, r = some (.int x) ∧ Q x h')) (a0 : Nat) (x1 : Int32) (x2 : Int32) (h : Hp) (v : vcX8_searchFrom_0 E d (zkX8_searchFrom_39 E X) a0 x1 x2 h Q) : GG E X 6 0 0 0 [some (.ref a0), some (.int x1), some (.int x2), none, none, none] [] h := by
  refine zg_aload_n (q := 1) C dX8_searchFrom_0 rfl rfl ?_
  refine zg_iload_n (q := 2) C dX8_searchFrom_1 rfl rfl ?_
  refine zg_iconst (v := 1) (q := 3) C dX8_searchFrom_2 (by decide) rfl ?_
  refine zg_iadd (q := 4) C dX8_searchFrom_3 rfl ?_
  refine zg_iload_n (q := 5) C dX8_searchFrom_4 rfl rfl ?_
  refine zg_cV2V (q := 8) C mX8_findMoves vX8_findMoves lmX8_209 rfl (bX8).1 v.1 (Nat.le_of_ble_eq_true rfl) ⟨Nat.le_refl _, Nat.le_refl _⟩ dX8_searchFrom_5 rfl v.2 (fun h1 v => ?_)
  refine zg_aload_n (q := 9) C dX8_searchFrom_8 rfl rfl ?_
  refine zg_get (j := 9) (q := 12) C bX8 (by decide) lkX8_27 dX8_searchFrom_9 rfl (okA.get v.1) ?_
  have v := v.2
  refine zg_iload_n (q := 13) C dX8_searchFrom_12 rfl rfl ?_
  refine zg_iconst (v := 1) (q := 14) C dX8_searchFrom_13 (by decide) rfl ?_
  refine zg_iadd (q := 15) C dX8_searchFrom_14 rfl ?_
  refine zg_iald (q := 16) C dX8_searchFrom_15 rfl v.1 ?_
  have v := v.2
  refine zg_if_ne (t := 28) (q := 19) C dX8_searchFrom_16 (by decide) rfl (fun c => ?_) (fun c => ?_)
  · have v := v.1 c
    refine zg_iload_n (q := 29) C dX8_searchFrom_28 rfl rfl ?_
    refine zg_if_ne (t := 34) (q := 32) C dX8_searchFrom_29 (by decide) rfl (fun c => ?_) (fun c => ?_)
    · have v := v.1 c
      refine zg_iconst (v := (-1)) (q := 35) C dX8_searchFrom_34 (by decide) rfl ?_
      refine zg_istore_n (q := 36) C dX8_searchFrom_35 (by decide) rfl ?_
      refine zg_iconst (v := 0) (q := 37) C dX8_searchFrom_36 (by decide) rfl ?_
      refine zg_istore (q := 39) C dX8_searchFrom_37 (by decide) rfl ?_
      exact zg_mask [true, false, true, true, true, false] v
    · have v := v.2 c
      refine zg_iconst (v := 0) (q := 33) C dX8_searchFrom_32 (by decide) rfl ?_
      exact zg_iret C rfl dX8_searchFrom_33 ⟨Nat.le_refl _, Nat.le_refl _⟩ ⟨_, rfl, v⟩
  · have v := v.2 c
    refine zg_aload_n (q := 20) C dX8_searchFrom_19 rfl rfl ?_
    refine zg_iload_n (q := 21) C dX8_searchFrom_20 rfl rfl ?_
    refine zg_iload_n (q := 22) C dX8_searchFrom_21 rfl rfl ?_
    refine zg_iconst (v := 1) (q := 23) C dX8_searchFrom_22 (by decide) rfl ?_
    refine zg_iadd (q := 24) C dX8_searchFrom_23 rfl ?_
    refine zg_cV2I (q := 27) C mX8_endValue vX8_endValue lmX8_222 rfl (bX8).1 v.1 (Nat.le_of_ble_eq_true rfl) ⟨Nat.le_refl _, Nat.le_refl _⟩ dX8_searchFrom_24 rfl v.2 (fun r3 h2 v => ?_)
    exact zg_iret C rfl dX8_searchFrom_27 ⟨Nat.le_refl _, Nat.le_refl _⟩ ⟨_, rfl, v⟩
set_option maxRecDepth 100000 in
set_option maxHeartbeats 4000000 in
theorem zsX8_searchFrom_39 {E : Wd} {X : Mx} {d : Nat} {Q : Int32 → Hp → Prop} (C : zz_C E X YX8_searchFrom (d + 1) 0 0 (fun r h' => ∃ x : Int32, r = some (.int x) ∧ Q x h')) (a0 : Nat) (x2 : Int32) (x3 : Int32) (x4 : Int32) (h : Hp) (v : vcX8_searchFrom_39 E d (zkX8_searchFrom_39 E X) a0 x2 x3 x4 h Q) : GG E X 6 0 0 39 [some (.ref a0), none, some (.int x2), some (.int x3), some (.int x4), none] [] h := by
  refine zg_iload (q := 41) C dX8_searchFrom_39 rfl rfl ?_
  refine zg_aload_n (q := 42) C dX8_searchFrom_41 rfl rfl ?_
  refine zg_get (j := 9) (q := 45) C bX8 (by decide) lkX8_27 dX8_searchFrom_42 rfl (okA.get v.1) ?_
  have v := v.2
  refine zg_iload_n (q := 46) C dX8_searchFrom_45 rfl rfl ?_
  refine zg_iconst (v := 1) (q := 47) C dX8_searchFrom_46 (by decide) rfl ?_
  refine zg_iadd (q := 48) C dX8_searchFrom_47 rfl ?_
  refine zg_iald (q := 49) C dX8_searchFrom_48 rfl v.1 ?_
  have v := v.2
  refine zg_icmp_ge (t := 92) (q := 52) C dX8_searchFrom_49 (by decide) rfl (fun c => ?_) (fun c => ?_)
  · have v := v.1 c
    refine zg_iload_n (q := 93) C dX8_searchFrom_92 rfl rfl ?_
    exact zg_iret C rfl dX8_searchFrom_93 ⟨Nat.le_refl _, Nat.le_refl _⟩ ⟨_, rfl, v⟩
  · have v := v.2 c
    refine zg_aload_n (q := 53) C dX8_searchFrom_52 rfl rfl ?_
    refine zg_aload_n (q := 54) C dX8_searchFrom_53 rfl rfl ?_
    refine zg_get (j := 13) (q := 57) C bX8 (by decide) lkX8_39 dX8_searchFrom_54 rfl (okA.get v.1) ?_
    have v := v.2
    refine zg_iload_n (q := 58) C dX8_searchFrom_57 rfl rfl ?_
    refine zg_iconst (v := 1) (q := 59) C dX8_searchFrom_58 (by decide) rfl ?_
    refine zg_iadd (q := 60) C dX8_searchFrom_59 rfl ?_
    refine zg_aald (q := 61) C dX8_searchFrom_60 rfl v.1 ?_
    have v := v.2
    refine zg_iload (q := 63) C dX8_searchFrom_61 rfl rfl ?_
    refine zg_iald (q := 64) C dX8_searchFrom_63 rfl v.1 ?_
    have v := v.2
    refine zg_iload_n (q := 65) C dX8_searchFrom_64 rfl rfl ?_
    refine zg_iconst (v := 1) (q := 66) C dX8_searchFrom_65 (by decide) rfl ?_
    refine zg_isub (q := 67) C dX8_searchFrom_66 rfl ?_
    refine zg_cV2I (q := 70) C mX8_searchFrom vX8_searchFrom lmX8_281 rfl (bX8).1 v.1 (Nat.le_of_ble_eq_true rfl) ⟨Nat.le_refl _, Nat.le_refl _⟩ dX8_searchFrom_67 rfl v.2 (fun r2 h1 v => ?_)
    refine zg_ineg (q := 71) C dX8_searchFrom_70 rfl ?_
    refine zg_istore (q := 73) C dX8_searchFrom_71 (by decide) rfl ?_
    refine zg_iload (q := 75) C dX8_searchFrom_73 rfl rfl ?_
    refine zg_iload_n (q := 76) C dX8_searchFrom_75 rfl rfl ?_
    refine zg_icmp_le (t := 84) (q := 79) C dX8_searchFrom_76 (by decide) rfl (fun c => ?_) (fun c => ?_)
    · have v := v.1 c
      refine zg_iload_n (q := 85) C dX8_searchFrom_84 rfl rfl ?_
      refine zg_istore_n (q := 86) C dX8_searchFrom_85 (by decide) rfl ?_
      refine zg_iinc (v := 1) (q := 89) C dX8_searchFrom_86 rfl (by decide) (by decide) rfl ?_
      refine zg_goto (t := 39) C dX8_searchFrom_89 (by decide) ?_
      exact zg_mask [true, false, true, true, true, false] v
    · have v := v.2 c
      refine zg_iload (q := 81) C dX8_searchFrom_79 rfl rfl ?_
      refine zg_goto (t := 85) C dX8_searchFrom_81 (by decide) ?_
      refine zg_istore_n (q := 86) C dX8_searchFrom_85 (by decide) rfl ?_
      refine zg_iinc (v := 1) (q := 89) C dX8_searchFrom_86 rfl (by decide) (by decide) rfl ?_
      refine zg_goto (t := 39) C dX8_searchFrom_89 (by decide) ?_
      exact zg_mask [true, false, true, true, true, false] v
theorem rnX8_searchFrom {E : Wd} {d : Nat} {a0 : Nat} {x1 : Int32} {x2 : Int32} {h : Hp} {Q : Int32 → Hp → Prop} (k : ∀ (K39 : Nat → Int32 → Int32 → Int32 → Hp → Prop),(∀ (a0 : Nat) (x2 : Int32) (x3 : Int32) (x4 : Int32) h, vcX8_searchFrom_39 E d K39 a0 x2 x3 x4 h Q → K39 a0 x2 x3 x4 h) → vcX8_searchFrom_0 E d K39 a0 x1 x2 h Q) : OkI E YX8_searchFrom (d + 1) [.ref a0, .int x1, .int x2] h Q :=
  zz_body2 (r := 3) mX8_searchFrom (zc_a (zc_i (zc_i zc_n))) (Nat.le_of_ble_eq_true rfl) (fun X C => zsX8_searchFrom_0 C a0 x1 x2 h (k (zkX8_searchFrom_39 E X) (fun a0 x2 x3 x4 h v => zsX8_searchFrom_39 C a0 x2 x3 x4 h v)))
def vcX8_search_0 (E : Wd) (d : Nat) (a0 : Nat) (x1 : Int32) (h : Hp) (Q : Int32 → Hp → Prop) : Prop :=
  isO h a0 8 ∧ OkI E YX8_isPlaying d [.ref a0] h (fun r2 h1 => (¬ r2 = (0 : Int32) → OkI E YX8_isBetween d [.int x1, .int 0, .int 4] h1 (fun r4 h3 => (r4 = (0 : Int32) → Q ((-2)) h3) ∧ (¬ r4 = (0 : Int32) → isO h3 a0 8 ∧ OkI E YX8_here d [.ref a0] h3 (fun r6 h5 => isO h5 a0 8 ∧ OkI E YX8_searchFrom d [.ref a0, .int r6, .int x1] h5 (fun r8 h7 => Q r8 h7))))) ∧ (r2 = (0 : Int32) → Q ((-3)) h1))
set_option maxRecDepth 100000 in
set_option maxHeartbeats 4000000 in
theorem zsX8_search_0 {E : Wd} {X : Mx} {d : Nat} {Q : Int32 → Hp → Prop} (C : zz_C E X YX8_search (d + 1) 0 0 (fun r h' => ∃ x : Int32, r = some (.int x) ∧ Q x h')) (a0 : Nat) (x1 : Int32) (h : Hp) (v : vcX8_search_0 E d a0 x1 h Q) : GG E X 2 0 0 0 [some (.ref a0), some (.int x1)] [] h := by
  refine zg_aload_n (q := 1) C dX8_search_0 rfl rfl ?_
  refine zg_cV0I (q := 4) C mX8_isPlaying vX8_isPlaying lmX8_257 rfl (bX8).1 v.1 (Nat.le_of_ble_eq_true rfl) ⟨Nat.le_refl _, Nat.le_refl _⟩ dX8_search_1 rfl v.2 (fun r2 h1 v => ?_)
  refine zg_if_ne (t := 10) (q := 7) C dX8_search_4 (by decide) rfl (fun c => ?_) (fun c => ?_)
  · have v := v.1 c
    refine zg_iload_n (q := 11) C dX8_search_10 rfl rfl ?_
    refine zg_iconst (v := 0) (q := 12) C dX8_search_11 (by decide) rfl ?_
    refine zg_iconst (v := 4) (q := 13) C dX8_search_12 (by decide) rfl ?_
    refine zg_cS3I (q := 16) C mX8_isBetween tX8_isBetween lmX8_86 rfl (Nat.le_of_ble_eq_true rfl) ⟨Nat.le_refl _, Nat.le_refl _⟩ dX8_search_13 rfl v (fun r4 h3 v => ?_)
    refine zg_if_eq (t := 31) (q := 19) C dX8_search_16 (by decide) rfl (fun c => ?_) (fun c => ?_)
    · have v := v.1 c
      refine zg_bipush (v := (-2)) (q := 33) C dX8_search_31 (by decide) rfl ?_
      exact zg_iret C rfl dX8_search_33 ⟨Nat.le_refl _, Nat.le_refl _⟩ ⟨_, rfl, v⟩
    · have v := v.2 c
      refine zg_aload_n (q := 20) C dX8_search_19 rfl rfl ?_
      refine zg_aload_n (q := 21) C dX8_search_20 rfl rfl ?_
      refine zg_cV0I (q := 24) C mX8_here vX8_here lmX8_260 rfl (bX8).1 v.1 (Nat.le_of_ble_eq_true rfl) ⟨Nat.le_refl _, Nat.le_refl _⟩ dX8_search_21 rfl v.2 (fun r6 h5 v => ?_)
      refine zg_iload_n (q := 25) C dX8_search_24 rfl rfl ?_
      refine zg_cV2I (q := 28) C mX8_searchFrom vX8_searchFrom lmX8_281 rfl (bX8).1 v.1 (Nat.le_of_ble_eq_true rfl) ⟨Nat.le_refl _, Nat.le_refl _⟩ dX8_search_25 rfl v.2 (fun r8 h7 v => ?_)
      refine zg_goto (t := 33) C dX8_search_28 (by decide) ?_
      exact zg_iret C rfl dX8_search_33 ⟨Nat.le_refl _, Nat.le_refl _⟩ ⟨_, rfl, v⟩
  · have v := v.2 c
    refine zg_bipush (v := (-3)) (q := 9) C dX8_search_7 (by decide) rfl ?_
    exact zg_iret C rfl dX8_search_9 ⟨Nat.le_refl _, Nat.le_refl _⟩ ⟨_, rfl, v⟩
theorem rnX8_search {E : Wd} {d : Nat} {a0 : Nat} {x1 : Int32} {h : Hp} {Q : Int32 → Hp → Prop} (k : vcX8_search_0 E d a0 x1 h Q) : OkI E YX8_search (d + 1) [.ref a0, .int x1] h Q :=
  zz_body2 (r := 0) mX8_search (zc_a (zc_i zc_n)) (Nat.le_of_ble_eq_true rfl) (fun X C => zsX8_search_0 C a0 x1 h k)
def vcX8_hasCaptured_0 (E : Wd) (d : Nat) (K13 : Nat → Int32 → Int32 → Hp → Prop) (a0 : Nat) (x1 : Int32) (h : Hp) (Q : Int32 → Hp → Prop) : Prop :=
  okA h a0 8 21 ∧ isO h a0 8 ∧ OkV E YX8_decode d [.ref a0, .int x1, .ref (fA h a0 21)] h (fun h1 => K13 a0 0 0 h1)
def vcX8_hasCaptured_13 (E : Wd) (d : Nat) (K13 : Nat → Int32 → Int32 → Hp → Prop) (a0 : Nat) (x2 : Int32) (x3 : Int32) (h : Hp) (Q : Int32 → Hp → Prop) : Prop :=
  okA h a0 8 4 ∧ okR E h (fA h a0 4) 0 2 ∧ ((gA h (fA h a0 4) 2) ≤ x3 → mB x2 ∧ Q x2 h) ∧ (¬ (gA h (fA h a0 4) 2) ≤ x3 → okA h a0 8 21 ∧ okR E h (fA h a0 21) 0 x3 ∧ isO h a0 8 ∧ OkI E YX8_squares d [.ref a0] h (fun r2 h1 => (¬ (gA h (fA h a0 21) x3) = r2 → K13 a0 (x2 ||| (0 : Int32)) (x3 + 1) h1) ∧ ((gA h (fA h a0 21) x3) = r2 → K13 a0 (x2 ||| (1 : Int32)) (x3 + 1) h1)))
def zkX8_hasCaptured_13 (E : Wd) (X : Mx) : Nat → Int32 → Int32 → Hp → Prop := fun a0 x2 x3 h => GG E X 4 0 0 13 [some (.ref a0), none, some (.int x2), some (.int x3)] [] h
set_option maxRecDepth 100000 in
set_option maxHeartbeats 4000000 in
theorem zsX8_hasCaptured_0 {E : Wd} {X : Mx} {d : Nat} {Q : Int32 → Hp → Prop} (C : zz_C E X YX8_hasCaptured (d + 1) 0 0 (fun r h' => ∃ x : Int32, r = some (.int x) ∧ Q x h')) (a0 : Nat) (x1 : Int32) (h : Hp) (v : vcX8_hasCaptured_0 E d (zkX8_hasCaptured_13 E X) a0 x1 h Q) : GG E X 4 0 0 0 [some (.ref a0), some (.int x1), none, none] [] h := by
  refine zg_aload_n (q := 1) C dX8_hasCaptured_0 rfl rfl ?_
  refine zg_iload_n (q := 2) C dX8_hasCaptured_1 rfl rfl ?_
  refine zg_aload_n (q := 3) C dX8_hasCaptured_2 rfl rfl ?_
  refine zg_get (j := 21) (q := 6) C bX8 (by decide) lkX8_61 dX8_hasCaptured_3 rfl (okA.get v.1) ?_
  have v := v.2
  refine zg_cV2V (q := 9) C mX8_decode vX8_decode lmX8_201 rfl (bX8).1 v.1 (Nat.le_of_ble_eq_true rfl) ⟨Nat.le_refl _, Nat.le_refl _⟩ dX8_hasCaptured_6 rfl v.2 (fun h1 v => ?_)
  refine zg_iconst (v := 0) (q := 10) C dX8_hasCaptured_9 (by decide) rfl ?_
  refine zg_istore_n (q := 11) C dX8_hasCaptured_10 (by decide) rfl ?_
  refine zg_iconst (v := 0) (q := 12) C dX8_hasCaptured_11 (by decide) rfl ?_
  refine zg_istore_n (q := 13) C dX8_hasCaptured_12 (by decide) rfl ?_
  exact zg_mask [true, false, true, true] v
set_option maxRecDepth 100000 in
set_option maxHeartbeats 4000000 in
theorem zsX8_hasCaptured_13 {E : Wd} {X : Mx} {d : Nat} {Q : Int32 → Hp → Prop} (C : zz_C E X YX8_hasCaptured (d + 1) 0 0 (fun r h' => ∃ x : Int32, r = some (.int x) ∧ Q x h')) (a0 : Nat) (x2 : Int32) (x3 : Int32) (h : Hp) (v : vcX8_hasCaptured_13 E d (zkX8_hasCaptured_13 E X) a0 x2 x3 h Q) : GG E X 4 0 0 13 [some (.ref a0), none, some (.int x2), some (.int x3)] [] h := by
  refine zg_iload_n (q := 14) C dX8_hasCaptured_13 rfl rfl ?_
  refine zg_aload_n (q := 15) C dX8_hasCaptured_14 rfl rfl ?_
  refine zg_get (j := 4) (q := 18) C bX8 (by decide) lkX8_13 dX8_hasCaptured_15 rfl (okA.get v.1) ?_
  have v := v.2
  refine zg_iconst (v := 2) (q := 19) C dX8_hasCaptured_18 (by decide) rfl ?_
  refine zg_iald (q := 20) C dX8_hasCaptured_19 rfl v.1 ?_
  have v := v.2
  refine zg_icmp_ge (t := 50) (q := 23) C dX8_hasCaptured_20 (by decide) rfl (fun c => ?_) (fun c => ?_)
  · have v := v.1 c
    refine zg_iload_n (q := 51) C dX8_hasCaptured_50 rfl rfl ?_
    exact zg_zret C rfl dX8_hasCaptured_51 ⟨Nat.le_refl _, Nat.le_refl _⟩ v.1 ⟨_, rfl, v.2⟩
  · have v := v.2 c
    refine zg_iload_n (q := 24) C dX8_hasCaptured_23 rfl rfl ?_
    refine zg_aload_n (q := 25) C dX8_hasCaptured_24 rfl rfl ?_
    refine zg_get (j := 21) (q := 28) C bX8 (by decide) lkX8_61 dX8_hasCaptured_25 rfl (okA.get v.1) ?_
    have v := v.2
    refine zg_iload_n (q := 29) C dX8_hasCaptured_28 rfl rfl ?_
    refine zg_iald (q := 30) C dX8_hasCaptured_29 rfl v.1 ?_
    have v := v.2
    refine zg_aload_n (q := 31) C dX8_hasCaptured_30 rfl rfl ?_
    refine zg_cV0I (q := 34) C mX8_squares vX8_squares lmX8_152 rfl (bX8).1 v.1 (Nat.le_of_ble_eq_true rfl) ⟨Nat.le_refl _, Nat.le_refl _⟩ dX8_hasCaptured_31 rfl v.2 (fun r2 h1 v => ?_)
    refine zg_icmp_ne (t := 41) (q := 37) C dX8_hasCaptured_34 (by decide) rfl (fun c => ?_) (fun c => ?_)
    · have v := v.1 c
      refine zg_iconst (v := 0) (q := 42) C dX8_hasCaptured_41 (by decide) rfl ?_
      refine zg_ior (q := 43) C dX8_hasCaptured_42 rfl ?_
      refine zg_istore_n (q := 44) C dX8_hasCaptured_43 (by decide) rfl ?_
      refine zg_iinc (v := 1) (q := 47) C dX8_hasCaptured_44 rfl (by decide) (by decide) rfl ?_
      refine zg_goto (t := 13) C dX8_hasCaptured_47 (by decide) ?_
      exact zg_mask [true, false, true, true] v
    · have v := v.2 c
      refine zg_iconst (v := 1) (q := 38) C dX8_hasCaptured_37 (by decide) rfl ?_
      refine zg_goto (t := 42) C dX8_hasCaptured_38 (by decide) ?_
      refine zg_ior (q := 43) C dX8_hasCaptured_42 rfl ?_
      refine zg_istore_n (q := 44) C dX8_hasCaptured_43 (by decide) rfl ?_
      refine zg_iinc (v := 1) (q := 47) C dX8_hasCaptured_44 rfl (by decide) (by decide) rfl ?_
      refine zg_goto (t := 13) C dX8_hasCaptured_47 (by decide) ?_
      exact zg_mask [true, false, true, true] v
theorem rnX8_hasCaptured {E : Wd} {d : Nat} {a0 : Nat} {x1 : Int32} {h : Hp} {Q : Int32 → Hp → Prop} (k : ∀ (K13 : Nat → Int32 → Int32 → Hp → Prop),(∀ (a0 : Nat) (x2 : Int32) (x3 : Int32) h, vcX8_hasCaptured_13 E d K13 a0 x2 x3 h Q → K13 a0 x2 x3 h) → vcX8_hasCaptured_0 E d K13 a0 x1 h Q) : OkI E YX8_hasCaptured (d + 1) [.ref a0, .int x1] h Q :=
  zz_body2 (r := 2) mX8_hasCaptured (zc_a (zc_i zc_n)) (Nat.le_of_ble_eq_true rfl) (fun X C => zsX8_hasCaptured_0 C a0 x1 h (k (zkX8_hasCaptured_13 E X) (fun a0 x2 x3 h v => zsX8_hasCaptured_13 C a0 x2 x3 h v)))
def vcX8_positions_0 (E : Wd) (d : Nat) (K45 : Nat → Int32 → Int32 → Int32 → Int32 → Hp → Prop) (a0 : Nat) (x1 : Int32) (x2 : Int32) (x3 : Int32) (h : Hp) (Q : Int32 → Hp → Prop) : Prop :=
  okI h a0 8 7 ∧ (¬ (fI h a0 7) = (0 : Int32) → OkI E YX8_isBetween d [.int x1, .int 0, .int 1] h (fun r2 h1 => (r2 = (0 : Int32) → Q ((-1)) h1) ∧ (¬ r2 = (0 : Int32) → OkI E YX8_isBetween d [.int x2, .int ((-1)), .int 1] h1 (fun r4 h3 => (r4 = (0 : Int32) → Q ((-1)) h3) ∧ (¬ r4 = (0 : Int32) → OkI E YX8_isBetween d [.int x3, .int 0, .int 2] h3 (fun r6 h5 => (¬ r6 = (0 : Int32) → K45 a0 x2 x3 0 x1 h5) ∧ (r6 = (0 : Int32) → Q ((-1)) h5))))))) ∧ ((fI h a0 7) = (0 : Int32) → Q ((-3)) h)
def vcX8_positions_117 (E : Wd) (d : Nat) (K45 : Nat → Int32 → Int32 → Int32 → Int32 → Hp → Prop) (a0 : Nat) (x2 : Int32) (x3 : Int32) (x5 : Int32) (s0 : Int32) (h : Hp) (Q : Int32 → Hp → Prop) : Prop :=
  K45 a0 x2 x3 (s0 + (0 : Int32)) (x5 + 2) h
def vcX8_positions_83 (E : Wd) (d : Nat) (K45 : Nat → Int32 → Int32 → Int32 → Int32 → Hp → Prop) (a0 : Nat) (x2 : Int32) (x3 : Int32) (x4 : Int32) (x5 : Int32) (s0 : Int32) (h : Hp) (Q : Int32 → Hp → Prop) : Prop :=
  okA h a0 8 14 ∧ okR E h (fA h a0 14) 1 x5 ∧ ((gA h (fA h a0 14) x5) = (0 : Int32) → vcX8_positions_117 E d K45 a0 x2 x3 x5 x4 h Q) ∧ (¬ (gA h (fA h a0 14) x5) = (0 : Int32) → okA h a0 8 17 ∧ okR E h (fA h a0 17) 0 x5 ∧ (¬ (gA h (fA h a0 17) x5) = x2 → vcX8_positions_117 E d K45 a0 x2 x3 x5 x4 h Q) ∧ ((gA h (fA h a0 17) x5) = x2 → (s0 = (0 : Int32) → vcX8_positions_117 E d K45 a0 x2 x3 x5 x4 h Q) ∧ (¬ s0 = (0 : Int32) → K45 a0 x2 x3 (x4 + (1 : Int32)) (x5 + 2) h)))
def vcX8_positions_78 (E : Wd) (d : Nat) (K45 : Nat → Int32 → Int32 → Int32 → Int32 → Hp → Prop) (a0 : Nat) (x2 : Int32) (x3 : Int32) (x4 : Int32) (x5 : Int32) (h : Hp) (Q : Int32 → Hp → Prop) : Prop :=
  vcX8_positions_83 E d K45 a0 x2 x3 x4 x5 1 h Q
def vcX8_positions_75 (E : Wd) (d : Nat) (K45 : Nat → Int32 → Int32 → Int32 → Int32 → Hp → Prop) (a0 : Nat) (x2 : Int32) (x3 : Int32) (x4 : Int32) (x5 : Int32) (s0 : Int32) (s1 : Int32) (h : Hp) (Q : Int32 → Hp → Prop) : Prop :=
  (¬ s0 = s1 → vcX8_positions_83 E d K45 a0 x2 x3 x4 x5 0 h Q) ∧ (s0 = s1 → vcX8_positions_78 E d K45 a0 x2 x3 x4 x5 h Q)
def vcX8_positions_45 (E : Wd) (d : Nat) (K45 : Nat → Int32 → Int32 → Int32 → Int32 → Hp → Prop) (a0 : Nat) (x2 : Int32) (x3 : Int32) (x4 : Int32) (x5 : Int32) (h : Hp) (Q : Int32 → Hp → Prop) : Prop :=
  okI h a0 8 20 ∧ ((fI h a0 20) ≤ x5 → Q x4 h) ∧ (¬ (fI h a0 20) ≤ x5 → (x3 = (2 : Int32) → vcX8_positions_78 E d K45 a0 x2 x3 x4 x5 h Q) ∧ (¬ x3 = (2 : Int32) → isO h a0 8 ∧ OkI E YX8_hasCaptured d [.ref a0, .int x5] h (fun r2 h1 => (¬ x3 = (1 : Int32) → vcX8_positions_75 E d K45 a0 x2 x3 x4 x5 r2 0 h1 Q) ∧ (x3 = (1 : Int32) → vcX8_positions_75 E d K45 a0 x2 x3 x4 x5 r2 1 h1 Q))))
def zkX8_positions_45 (E : Wd) (X : Mx) : Nat → Int32 → Int32 → Int32 → Int32 → Hp → Prop := fun a0 x2 x3 x4 x5 h => GG E X 7 0 0 45 [some (.ref a0), none, some (.int x2), some (.int x3), some (.int x4), some (.int x5), none] [] h
set_option maxRecDepth 100000 in
set_option maxHeartbeats 4000000 in
theorem zsX8_positions_0 {E : Wd} {X : Mx} {d : Nat} {Q : Int32 → Hp → Prop} (C : zz_C E X YX8_positions (d + 1) 0 0 (fun r h' => ∃ x : Int32, r = some (.int x) ∧ Q x h')) (a0 : Nat) (x1 : Int32) (x2 : Int32) (x3 : Int32) (h : Hp) (v : vcX8_positions_0 E d (zkX8_positions_45 E X) a0 x1 x2 x3 h Q) : GG E X 7 0 0 0 [some (.ref a0), some (.int x1), some (.int x2), some (.int x3), none, none, none] [] h := by
  refine zg_aload_n (q := 1) C dX8_positions_0 rfl rfl ?_
  refine zg_get (j := 7) (q := 4) C bX8 (by decide) lkX8_146 dX8_positions_1 rfl (okI.get v.1) ?_
  have v := v.2
  refine zg_if_ne (t := 10) (q := 7) C dX8_positions_4 (by decide) rfl (fun c => ?_) (fun c => ?_)
  · have v := v.1 c
    refine zg_iload_n (q := 11) C dX8_positions_10 rfl rfl ?_
    refine zg_iconst (v := 0) (q := 12) C dX8_positions_11 (by decide) rfl ?_
    refine zg_iconst (v := 1) (q := 13) C dX8_positions_12 (by decide) rfl ?_
    refine zg_cS3I (q := 16) C mX8_isBetween tX8_isBetween lmX8_86 rfl (Nat.le_of_ble_eq_true rfl) ⟨Nat.le_refl _, Nat.le_refl _⟩ dX8_positions_13 rfl v (fun r2 h1 v => ?_)
    refine zg_if_eq (t := 37) (q := 19) C dX8_positions_16 (by decide) rfl (fun c => ?_) (fun c => ?_)
    · have v := v.1 c
      refine zg_iconst (v := (-1)) (q := 38) C dX8_positions_37 (by decide) rfl ?_
      exact zg_iret C rfl dX8_positions_38 ⟨Nat.le_refl _, Nat.le_refl _⟩ ⟨_, rfl, v⟩
    · have v := v.2 c
      refine zg_iload_n (q := 20) C dX8_positions_19 rfl rfl ?_
      refine zg_iconst (v := (-1)) (q := 21) C dX8_positions_20 (by decide) rfl ?_
      refine zg_iconst (v := 1) (q := 22) C dX8_positions_21 (by decide) rfl ?_
      refine zg_cS3I (q := 25) C mX8_isBetween tX8_isBetween lmX8_86 rfl (Nat.le_of_ble_eq_true rfl) ⟨Nat.le_refl _, Nat.le_refl _⟩ dX8_positions_22 rfl v (fun r4 h3 v => ?_)
      refine zg_if_eq (t := 37) (q := 28) C dX8_positions_25 (by decide) rfl (fun c => ?_) (fun c => ?_)
      · have v := v.1 c
        refine zg_iconst (v := (-1)) (q := 38) C dX8_positions_37 (by decide) rfl ?_
        exact zg_iret C rfl dX8_positions_38 ⟨Nat.le_refl _, Nat.le_refl _⟩ ⟨_, rfl, v⟩
      · have v := v.2 c
        refine zg_iload_n (q := 29) C dX8_positions_28 rfl rfl ?_
        refine zg_iconst (v := 0) (q := 30) C dX8_positions_29 (by decide) rfl ?_
        refine zg_iconst (v := 2) (q := 31) C dX8_positions_30 (by decide) rfl ?_
        refine zg_cS3I (q := 34) C mX8_isBetween tX8_isBetween lmX8_86 rfl (Nat.le_of_ble_eq_true rfl) ⟨Nat.le_refl _, Nat.le_refl _⟩ dX8_positions_31 rfl v (fun r6 h5 v => ?_)
        refine zg_if_ne (t := 39) (q := 37) C dX8_positions_34 (by decide) rfl (fun c => ?_) (fun c => ?_)
        · have v := v.1 c
          refine zg_iconst (v := 0) (q := 40) C dX8_positions_39 (by decide) rfl ?_
          refine zg_istore (q := 42) C dX8_positions_40 (by decide) rfl ?_
          refine zg_iload_n (q := 43) C dX8_positions_42 rfl rfl ?_
          refine zg_istore (q := 45) C dX8_positions_43 (by decide) rfl ?_
          exact zg_mask [true, false, true, true, true, true, false] v
        · have v := v.2 c
          refine zg_iconst (v := (-1)) (q := 38) C dX8_positions_37 (by decide) rfl ?_
          exact zg_iret C rfl dX8_positions_38 ⟨Nat.le_refl _, Nat.le_refl _⟩ ⟨_, rfl, v⟩
  · have v := v.2 c
    refine zg_bipush (v := (-3)) (q := 9) C dX8_positions_7 (by decide) rfl ?_
    exact zg_iret C rfl dX8_positions_9 ⟨Nat.le_refl _, Nat.le_refl _⟩ ⟨_, rfl, v⟩
set_option maxRecDepth 100000 in
set_option maxHeartbeats 4000000 in
theorem zsX8_positions_117 {E : Wd} {X : Mx} {d : Nat} {Q : Int32 → Hp → Prop} (C : zz_C E X YX8_positions (d + 1) 0 0 (fun r h' => ∃ x : Int32, r = some (.int x) ∧ Q x h')) (a0 : Nat) (x2 : Int32) (x3 : Int32) (x5 : Int32) (s0 : Int32) (h : Hp) (v : vcX8_positions_117 E d (zkX8_positions_45 E X) a0 x2 x3 x5 s0 h Q) : GG E X 7 0 0 117 [some (.ref a0), none, some (.int x2), some (.int x3), none, some (.int x5), none] [.int s0] h := by
  refine zg_iconst (v := 0) (q := 118) C dX8_positions_117 (by decide) rfl ?_
  refine zg_iadd (q := 119) C dX8_positions_118 rfl ?_
  refine zg_istore (q := 121) C dX8_positions_119 (by decide) rfl ?_
  refine zg_iinc (v := 2) (q := 124) C dX8_positions_121 rfl (by decide) (by decide) rfl ?_
  refine zg_goto (t := 45) C dX8_positions_124 (by decide) ?_
  exact zg_mask [true, false, true, true, true, true, false] v
set_option maxRecDepth 100000 in
set_option maxHeartbeats 4000000 in
theorem zsX8_positions_83 {E : Wd} {X : Mx} {d : Nat} {Q : Int32 → Hp → Prop} (C : zz_C E X YX8_positions (d + 1) 0 0 (fun r h' => ∃ x : Int32, r = some (.int x) ∧ Q x h')) (a0 : Nat) (x2 : Int32) (x3 : Int32) (x4 : Int32) (x5 : Int32) (s0 : Int32) (h : Hp) (v : vcX8_positions_83 E d (zkX8_positions_45 E X) a0 x2 x3 x4 x5 s0 h Q) : GG E X 7 0 0 83 [some (.ref a0), none, some (.int x2), some (.int x3), some (.int x4), some (.int x5), none] [.int s0] h := by
  refine zg_istore (q := 85) C dX8_positions_83 (by decide) rfl ?_
  refine zg_iload (q := 87) C dX8_positions_85 rfl rfl ?_
  refine zg_aload_n (q := 88) C dX8_positions_87 rfl rfl ?_
  refine zg_get (j := 14) (q := 91) C bX8 (by decide) lkX8_42 dX8_positions_88 rfl (okA.get v.1) ?_
  have v := v.2
  refine zg_iload (q := 93) C dX8_positions_91 rfl rfl ?_
  refine zg_zald (q := 94) C dX8_positions_93 rfl v.1 ?_
  have v := v.2
  refine zg_if_eq (t := 117) (q := 97) C dX8_positions_94 (by decide) rfl (fun c => ?_) (fun c => ?_)
  · have v := v.1 c
    exact zg_mask [true, false, true, true, false, true, false] (zsX8_positions_117 C _ _ _ _ _ _ v)
  · have v := v.2 c
    refine zg_aload_n (q := 98) C dX8_positions_97 rfl rfl ?_
    refine zg_get (j := 17) (q := 101) C bX8 (by decide) lkX8_52 dX8_positions_98 rfl (okA.get v.1) ?_
    have v := v.2
    refine zg_iload (q := 103) C dX8_positions_101 rfl rfl ?_
    refine zg_iald (q := 104) C dX8_positions_103 rfl v.1 ?_
    have v := v.2
    refine zg_iload_n (q := 105) C dX8_positions_104 rfl rfl ?_
    refine zg_icmp_ne (t := 117) (q := 108) C dX8_positions_105 (by decide) rfl (fun c => ?_) (fun c => ?_)
    · have v := v.1 c
      exact zg_mask [true, false, true, true, false, true, false] (zsX8_positions_117 C _ _ _ _ _ _ v)
    · have v := v.2 c
      refine zg_iload (q := 110) C dX8_positions_108 rfl rfl ?_
      refine zg_if_eq (t := 117) (q := 113) C dX8_positions_110 (by decide) rfl (fun c => ?_) (fun c => ?_)
      · have v := v.1 c
        exact zg_mask [true, false, true, true, false, true, false] (zsX8_positions_117 C _ _ _ _ _ _ v)
      · have v := v.2 c
        refine zg_iconst (v := 1) (q := 114) C dX8_positions_113 (by decide) rfl ?_
        refine zg_goto (t := 118) C dX8_positions_114 (by decide) ?_
        refine zg_iadd (q := 119) C dX8_positions_118 rfl ?_
        refine zg_istore (q := 121) C dX8_positions_119 (by decide) rfl ?_
        refine zg_iinc (v := 2) (q := 124) C dX8_positions_121 rfl (by decide) (by decide) rfl ?_
        refine zg_goto (t := 45) C dX8_positions_124 (by decide) ?_
        exact zg_mask [true, false, true, true, true, true, false] v
set_option maxRecDepth 100000 in
set_option maxHeartbeats 4000000 in
theorem zsX8_positions_78 {E : Wd} {X : Mx} {d : Nat} {Q : Int32 → Hp → Prop} (C : zz_C E X YX8_positions (d + 1) 0 0 (fun r h' => ∃ x : Int32, r = some (.int x) ∧ Q x h')) (a0 : Nat) (x2 : Int32) (x3 : Int32) (x4 : Int32) (x5 : Int32) (h : Hp) (v : vcX8_positions_78 E d (zkX8_positions_45 E X) a0 x2 x3 x4 x5 h Q) : GG E X 7 0 0 78 [some (.ref a0), none, some (.int x2), some (.int x3), some (.int x4), some (.int x5), none] [] h := by
  refine zg_iconst (v := 1) (q := 79) C dX8_positions_78 (by decide) rfl ?_
  refine zg_goto (t := 83) C dX8_positions_79 (by decide) ?_
  exact zg_mask [true, false, true, true, true, true, false] (zsX8_positions_83 C _ _ _ _ _ _ _ v)
set_option maxRecDepth 100000 in
set_option maxHeartbeats 4000000 in
theorem zsX8_positions_75 {E : Wd} {X : Mx} {d : Nat} {Q : Int32 → Hp → Prop} (C : zz_C E X YX8_positions (d + 1) 0 0 (fun r h' => ∃ x : Int32, r = some (.int x) ∧ Q x h')) (a0 : Nat) (x2 : Int32) (x3 : Int32) (x4 : Int32) (x5 : Int32) (s0 : Int32) (s1 : Int32) (h : Hp) (v : vcX8_positions_75 E d (zkX8_positions_45 E X) a0 x2 x3 x4 x5 s0 s1 h Q) : GG E X 7 0 0 75 [some (.ref a0), none, some (.int x2), some (.int x3), some (.int x4), some (.int x5), none] [.int s1, .int s0] h := by
  refine zg_icmp_ne (t := 82) (q := 78) C dX8_positions_75 (by decide) rfl (fun c => ?_) (fun c => ?_)
  · have v := v.1 c
    refine zg_iconst (v := 0) (q := 83) C dX8_positions_82 (by decide) rfl ?_
    exact zg_mask [true, false, true, true, true, true, false] (zsX8_positions_83 C _ _ _ _ _ _ _ v)
  · have v := v.2 c
    exact zg_mask [true, false, true, true, true, true, false] (zsX8_positions_78 C _ _ _ _ _ _ v)
set_option maxRecDepth 100000 in
set_option maxHeartbeats 4000000 in
theorem zsX8_positions_45 {E : Wd} {X : Mx} {d : Nat} {Q : Int32 → Hp → Prop} (C : zz_C E X YX8_positions (d + 1) 0 0 (fun r h' => ∃ x : Int32, r = some (.int x) ∧ Q x h')) (a0 : Nat) (x2 : Int32) (x3 : Int32) (x4 : Int32) (x5 : Int32) (h : Hp) (v : vcX8_positions_45 E d (zkX8_positions_45 E X) a0 x2 x3 x4 x5 h Q) : GG E X 7 0 0 45 [some (.ref a0), none, some (.int x2), some (.int x3), some (.int x4), some (.int x5), none] [] h := by
  refine zg_iload (q := 47) C dX8_positions_45 rfl rfl ?_
  refine zg_aload_n (q := 48) C dX8_positions_47 rfl rfl ?_
  refine zg_get (j := 20) (q := 51) C bX8 (by decide) lkX8_213 dX8_positions_48 rfl (okI.get v.1) ?_
  have v := v.2
  refine zg_icmp_ge (t := 127) (q := 54) C dX8_positions_51 (by decide) rfl (fun c => ?_) (fun c => ?_)
  · have v := v.1 c
    refine zg_iload (q := 129) C dX8_positions_127 rfl rfl ?_
    exact zg_iret C rfl dX8_positions_129 ⟨Nat.le_refl _, Nat.le_refl _⟩ ⟨_, rfl, v⟩
  · have v := v.2 c
    refine zg_iload_n (q := 55) C dX8_positions_54 rfl rfl ?_
    refine zg_iconst (v := 2) (q := 56) C dX8_positions_55 (by decide) rfl ?_
    refine zg_icmp_eq (t := 78) (q := 59) C dX8_positions_56 (by decide) rfl (fun c => ?_) (fun c => ?_)
    · have v := v.1 c
      exact zg_mask [true, false, true, true, true, true, false] (zsX8_positions_78 C _ _ _ _ _ _ v)
    · have v := v.2 c
      refine zg_aload_n (q := 60) C dX8_positions_59 rfl rfl ?_
      refine zg_iload (q := 62) C dX8_positions_60 rfl rfl ?_
      refine zg_cV1I (q := 65) C mX8_hasCaptured vX8_hasCaptured lmX8_284 rfl (bX8).1 v.1 (Nat.le_of_ble_eq_true rfl) ⟨Nat.le_refl _, Nat.le_refl _⟩ dX8_positions_62 rfl v.2 (fun r2 h1 v => ?_)
      refine zg_iload_n (q := 66) C dX8_positions_65 rfl rfl ?_
      refine zg_iconst (v := 1) (q := 67) C dX8_positions_66 (by decide) rfl ?_
      refine zg_icmp_ne (t := 74) (q := 70) C dX8_positions_67 (by decide) rfl (fun c => ?_) (fun c => ?_)
      · have v := v.1 c
        refine zg_iconst (v := 0) (q := 75) C dX8_positions_74 (by decide) rfl ?_
        exact zg_mask [true, false, true, true, true, true, false] (zsX8_positions_75 C _ _ _ _ _ _ _ _ v)
      · have v := v.2 c
        refine zg_iconst (v := 1) (q := 71) C dX8_positions_70 (by decide) rfl ?_
        refine zg_goto (t := 75) C dX8_positions_71 (by decide) ?_
        exact zg_mask [true, false, true, true, true, true, false] (zsX8_positions_75 C _ _ _ _ _ _ _ _ v)
theorem rnX8_positions {E : Wd} {d : Nat} {a0 : Nat} {x1 : Int32} {x2 : Int32} {x3 : Int32} {h : Hp} {Q : Int32 → Hp → Prop} (k : ∀ (K45 : Nat → Int32 → Int32 → Int32 → Int32 → Hp → Prop),(∀ (a0 : Nat) (x2 : Int32) (x3 : Int32) (x4 : Int32) (x5 : Int32) h, vcX8_positions_45 E d K45 a0 x2 x3 x4 x5 h Q → K45 a0 x2 x3 x4 x5 h) → vcX8_positions_0 E d K45 a0 x1 x2 x3 h Q) : OkI E YX8_positions (d + 1) [.ref a0, .int x1, .int x2, .int x3] h Q :=
  zz_body2 (r := 3) mX8_positions (zc_a (zc_i (zc_i (zc_i zc_n)))) (Nat.le_of_ble_eq_true rfl) (fun X C => zsX8_positions_0 C a0 x1 x2 x3 h (k (zkX8_positions_45 E X) (fun a0 x2 x3 x4 x5 h v => zsX8_positions_45 C a0 x2 x3 x4 x5 h v)))
def vcX8_distanceOf_0 (E : Wd) (d : Nat) (a0 : Nat) (x1 : Int32) (x2 : Int32) (h : Hp) (Q : Int32 → Hp → Prop) : Prop :=
  (¬ x1 = (0 : Int32) → okA h a0 8 19 ∧ okR E h (fA h a0 19) 0 x2 ∧ Q (gA h (fA h a0 19) x2) h) ∧ (x1 = (0 : Int32) → okA h a0 8 18 ∧ okR E h (fA h a0 18) 0 x2 ∧ Q (gA h (fA h a0 18) x2) h)
set_option maxRecDepth 100000 in
set_option maxHeartbeats 4000000 in
theorem zsX8_distanceOf_0 {E : Wd} {X : Mx} {d : Nat} {Q : Int32 → Hp → Prop} (C : zz_C E X YX8_distanceOf d 0 0 (fun r h' => ∃ x : Int32, r = some (.int x) ∧ Q x h')) (a0 : Nat) (x1 : Int32) (x2 : Int32) (h : Hp) (v : vcX8_distanceOf_0 E d a0 x1 x2 h Q) : GG E X 3 0 0 0 [some (.ref a0), some (.int x1), some (.int x2)] [] h := by
  refine zg_iload_n (q := 1) C dX8_distanceOf_0 rfl rfl ?_
  refine zg_if_ne (t := 13) (q := 4) C dX8_distanceOf_1 (by decide) rfl (fun c => ?_) (fun c => ?_)
  · have v := v.1 c
    refine zg_aload_n (q := 14) C dX8_distanceOf_13 rfl rfl ?_
    refine zg_get (j := 19) (q := 17) C bX8 (by decide) lkX8_58 dX8_distanceOf_14 rfl (okA.get v.1) ?_
    have v := v.2
    refine zg_iload_n (q := 18) C dX8_distanceOf_17 rfl rfl ?_
    refine zg_iald (q := 19) C dX8_distanceOf_18 rfl v.1 ?_
    have v := v.2
    exact zg_iret C rfl dX8_distanceOf_19 ⟨Nat.le_refl _, Nat.le_refl _⟩ ⟨_, rfl, v⟩
  · have v := v.2 c
    refine zg_aload_n (q := 5) C dX8_distanceOf_4 rfl rfl ?_
    refine zg_get (j := 18) (q := 8) C bX8 (by decide) lkX8_55 dX8_distanceOf_5 rfl (okA.get v.1) ?_
    have v := v.2
    refine zg_iload_n (q := 9) C dX8_distanceOf_8 rfl rfl ?_
    refine zg_iald (q := 10) C dX8_distanceOf_9 rfl v.1 ?_
    have v := v.2
    refine zg_goto (t := 19) C dX8_distanceOf_10 (by decide) ?_
    exact zg_iret C rfl dX8_distanceOf_19 ⟨Nat.le_refl _, Nat.le_refl _⟩ ⟨_, rfl, v⟩
theorem rnX8_distanceOf {E : Wd} {d : Nat} {a0 : Nat} {x1 : Int32} {x2 : Int32} {h : Hp} {Q : Int32 → Hp → Prop} (k : vcX8_distanceOf_0 E d a0 x1 x2 h Q) : OkI E YX8_distanceOf d [.ref a0, .int x1, .int x2] h Q :=
  zz_body2 (r := 0) mX8_distanceOf (zc_a (zc_i (zc_i zc_n))) (Nat.le_of_ble_eq_true rfl) (fun X C => zsX8_distanceOf_0 C a0 x1 x2 h k)
def vcX8_spread_0 (E : Wd) (d : Nat) (K43 : Nat → Int32 → Int32 → Int32 → Int32 → Hp → Prop) (a0 : Nat) (x1 : Int32) (x2 : Int32) (x3 : Int32) (h : Hp) (Q : Int32 → Hp → Prop) : Prop :=
  okI h a0 8 7 ∧ (¬ (fI h a0 7) = (0 : Int32) → OkI E YX8_isBetween d [.int x1, .int 0, .int 1] h (fun r2 h1 => (r2 = (0 : Int32) → Q ((-1)) h1) ∧ (¬ r2 = (0 : Int32) → OkI E YX8_isBetween d [.int x2, .int 0, .int 1] h1 (fun r4 h3 => (¬ r4 = (0 : Int32) → ((0 : Int32) ≤ x3 → K43 a0 x1 x3 0 x2 h3) ∧ (¬ (0 : Int32) ≤ x3 → Q ((-2)) h3)) ∧ (r4 = (0 : Int32) → Q ((-1)) h3))))) ∧ ((fI h a0 7) = (0 : Int32) → Q ((-3)) h)
def vcX8_spread_79 (E : Wd) (d : Nat) (K43 : Nat → Int32 → Int32 → Int32 → Int32 → Hp → Prop) (a0 : Nat) (x1 : Int32) (x3 : Int32) (x5 : Int32) (s0 : Int32) (h : Hp) (Q : Int32 → Hp → Prop) : Prop :=
  K43 a0 x1 x3 (s0 + (0 : Int32)) (x5 + 2) h
def vcX8_spread_43 (E : Wd) (d : Nat) (K43 : Nat → Int32 → Int32 → Int32 → Int32 → Hp → Prop) (a0 : Nat) (x1 : Int32) (x3 : Int32) (x4 : Int32) (x5 : Int32) (h : Hp) (Q : Int32 → Hp → Prop) : Prop :=
  okI h a0 8 20 ∧ ((fI h a0 20) ≤ x5 → Q x4 h) ∧ (¬ (fI h a0 20) ≤ x5 → okA h a0 8 14 ∧ okR E h (fA h a0 14) 1 x5 ∧ ((gA h (fA h a0 14) x5) = (0 : Int32) → vcX8_spread_79 E d K43 a0 x1 x3 x5 x4 h Q) ∧ (¬ (gA h (fA h a0 14) x5) = (0 : Int32) → isO h a0 8 ∧ OkI E YX8_distanceOf d [.ref a0, .int x1, .int x5] h (fun r2 h1 => (¬ r2 = x3 → vcX8_spread_79 E d K43 a0 x1 x3 x5 x4 h1 Q) ∧ (r2 = x3 → K43 a0 x1 x3 (x4 + (1 : Int32)) (x5 + 2) h1))))
def zkX8_spread_43 (E : Wd) (X : Mx) : Nat → Int32 → Int32 → Int32 → Int32 → Hp → Prop := fun a0 x1 x3 x4 x5 h => GG E X 6 0 0 43 [some (.ref a0), some (.int x1), none, some (.int x3), some (.int x4), some (.int x5)] [] h
set_option maxRecDepth 100000 in
set_option maxHeartbeats 4000000 in
theorem zsX8_spread_0 {E : Wd} {X : Mx} {d : Nat} {Q : Int32 → Hp → Prop} (C : zz_C E X YX8_spread (d + 1) 0 0 (fun r h' => ∃ x : Int32, r = some (.int x) ∧ Q x h')) (a0 : Nat) (x1 : Int32) (x2 : Int32) (x3 : Int32) (h : Hp) (v : vcX8_spread_0 E d (zkX8_spread_43 E X) a0 x1 x2 x3 h Q) : GG E X 6 0 0 0 [some (.ref a0), some (.int x1), some (.int x2), some (.int x3), none, none] [] h := by
  refine zg_aload_n (q := 1) C dX8_spread_0 rfl rfl ?_
  refine zg_get (j := 7) (q := 4) C bX8 (by decide) lkX8_146 dX8_spread_1 rfl (okI.get v.1) ?_
  have v := v.2
  refine zg_if_ne (t := 10) (q := 7) C dX8_spread_4 (by decide) rfl (fun c => ?_) (fun c => ?_)
  · have v := v.1 c
    refine zg_iload_n (q := 11) C dX8_spread_10 rfl rfl ?_
    refine zg_iconst (v := 0) (q := 12) C dX8_spread_11 (by decide) rfl ?_
    refine zg_iconst (v := 1) (q := 13) C dX8_spread_12 (by decide) rfl ?_
    refine zg_cS3I (q := 16) C mX8_isBetween tX8_isBetween lmX8_86 rfl (Nat.le_of_ble_eq_true rfl) ⟨Nat.le_refl _, Nat.le_refl _⟩ dX8_spread_13 rfl v (fun r2 h1 v => ?_)
    refine zg_if_eq (t := 28) (q := 19) C dX8_spread_16 (by decide) rfl (fun c => ?_) (fun c => ?_)
    · have v := v.1 c
      refine zg_iconst (v := (-1)) (q := 29) C dX8_spread_28 (by decide) rfl ?_
      exact zg_iret C rfl dX8_spread_29 ⟨Nat.le_refl _, Nat.le_refl _⟩ ⟨_, rfl, v⟩
    · have v := v.2 c
      refine zg_iload_n (q := 20) C dX8_spread_19 rfl rfl ?_
      refine zg_iconst (v := 0) (q := 21) C dX8_spread_20 (by decide) rfl ?_
      refine zg_iconst (v := 1) (q := 22) C dX8_spread_21 (by decide) rfl ?_
      refine zg_cS3I (q := 25) C mX8_isBetween tX8_isBetween lmX8_86 rfl (Nat.le_of_ble_eq_true rfl) ⟨Nat.le_refl _, Nat.le_refl _⟩ dX8_spread_22 rfl v (fun r4 h3 v => ?_)
      refine zg_if_ne (t := 30) (q := 28) C dX8_spread_25 (by decide) rfl (fun c => ?_) (fun c => ?_)
      · have v := v.1 c
        refine zg_iload_n (q := 31) C dX8_spread_30 rfl rfl ?_
        refine zg_if_ge (t := 37) (q := 34) C dX8_spread_31 (by decide) rfl (fun c => ?_) (fun c => ?_)
        · have v := v.1 c
          refine zg_iconst (v := 0) (q := 38) C dX8_spread_37 (by decide) rfl ?_
          refine zg_istore (q := 40) C dX8_spread_38 (by decide) rfl ?_
          refine zg_iload_n (q := 41) C dX8_spread_40 rfl rfl ?_
          refine zg_istore (q := 43) C dX8_spread_41 (by decide) rfl ?_
          exact zg_mask [true, true, false, true, true, true] v
        · have v := v.2 c
          refine zg_bipush (v := (-2)) (q := 36) C dX8_spread_34 (by decide) rfl ?_
          exact zg_iret C rfl dX8_spread_36 ⟨Nat.le_refl _, Nat.le_refl _⟩ ⟨_, rfl, v⟩
      · have v := v.2 c
        refine zg_iconst (v := (-1)) (q := 29) C dX8_spread_28 (by decide) rfl ?_
        exact zg_iret C rfl dX8_spread_29 ⟨Nat.le_refl _, Nat.le_refl _⟩ ⟨_, rfl, v⟩
  · have v := v.2 c
    refine zg_bipush (v := (-3)) (q := 9) C dX8_spread_7 (by decide) rfl ?_
    exact zg_iret C rfl dX8_spread_9 ⟨Nat.le_refl _, Nat.le_refl _⟩ ⟨_, rfl, v⟩
set_option maxRecDepth 100000 in
set_option maxHeartbeats 4000000 in
theorem zsX8_spread_79 {E : Wd} {X : Mx} {d : Nat} {Q : Int32 → Hp → Prop} (C : zz_C E X YX8_spread (d + 1) 0 0 (fun r h' => ∃ x : Int32, r = some (.int x) ∧ Q x h')) (a0 : Nat) (x1 : Int32) (x3 : Int32) (x5 : Int32) (s0 : Int32) (h : Hp) (v : vcX8_spread_79 E d (zkX8_spread_43 E X) a0 x1 x3 x5 s0 h Q) : GG E X 6 0 0 79 [some (.ref a0), some (.int x1), none, some (.int x3), none, some (.int x5)] [.int s0] h := by
  refine zg_iconst (v := 0) (q := 80) C dX8_spread_79 (by decide) rfl ?_
  refine zg_iadd (q := 81) C dX8_spread_80 rfl ?_
  refine zg_istore (q := 83) C dX8_spread_81 (by decide) rfl ?_
  refine zg_iinc (v := 2) (q := 86) C dX8_spread_83 rfl (by decide) (by decide) rfl ?_
  refine zg_goto (t := 43) C dX8_spread_86 (by decide) ?_
  exact zg_mask [true, true, false, true, true, true] v
set_option maxRecDepth 100000 in
set_option maxHeartbeats 4000000 in
theorem zsX8_spread_43 {E : Wd} {X : Mx} {d : Nat} {Q : Int32 → Hp → Prop} (C : zz_C E X YX8_spread (d + 1) 0 0 (fun r h' => ∃ x : Int32, r = some (.int x) ∧ Q x h')) (a0 : Nat) (x1 : Int32) (x3 : Int32) (x4 : Int32) (x5 : Int32) (h : Hp) (v : vcX8_spread_43 E d (zkX8_spread_43 E X) a0 x1 x3 x4 x5 h Q) : GG E X 6 0 0 43 [some (.ref a0), some (.int x1), none, some (.int x3), some (.int x4), some (.int x5)] [] h := by
  refine zg_iload (q := 45) C dX8_spread_43 rfl rfl ?_
  refine zg_aload_n (q := 46) C dX8_spread_45 rfl rfl ?_
  refine zg_get (j := 20) (q := 49) C bX8 (by decide) lkX8_213 dX8_spread_46 rfl (okI.get v.1) ?_
  have v := v.2
  refine zg_icmp_ge (t := 89) (q := 52) C dX8_spread_49 (by decide) rfl (fun c => ?_) (fun c => ?_)
  · have v := v.1 c
    refine zg_iload (q := 91) C dX8_spread_89 rfl rfl ?_
    exact zg_iret C rfl dX8_spread_91 ⟨Nat.le_refl _, Nat.le_refl _⟩ ⟨_, rfl, v⟩
  · have v := v.2 c
    refine zg_iload (q := 54) C dX8_spread_52 rfl rfl ?_
    refine zg_aload_n (q := 55) C dX8_spread_54 rfl rfl ?_
    refine zg_get (j := 14) (q := 58) C bX8 (by decide) lkX8_42 dX8_spread_55 rfl (okA.get v.1) ?_
    have v := v.2
    refine zg_iload (q := 60) C dX8_spread_58 rfl rfl ?_
    refine zg_zald (q := 61) C dX8_spread_60 rfl v.1 ?_
    have v := v.2
    refine zg_if_eq (t := 79) (q := 64) C dX8_spread_61 (by decide) rfl (fun c => ?_) (fun c => ?_)
    · have v := v.1 c
      exact zg_mask [true, true, false, true, false, true] (zsX8_spread_79 C _ _ _ _ _ _ v)
    · have v := v.2 c
      refine zg_aload_n (q := 65) C dX8_spread_64 rfl rfl ?_
      refine zg_iload_n (q := 66) C dX8_spread_65 rfl rfl ?_
      refine zg_iload (q := 68) C dX8_spread_66 rfl rfl ?_
      refine zg_cV2I (q := 71) C mX8_distanceOf vX8_distanceOf lmX8_287 rfl (bX8).1 v.1 (Nat.le_of_ble_eq_true rfl) ⟨Nat.le_refl _, Nat.le_refl _⟩ dX8_spread_68 rfl v.2 (fun r2 h1 v => ?_)
      refine zg_iload_n (q := 72) C dX8_spread_71 rfl rfl ?_
      refine zg_icmp_ne (t := 79) (q := 75) C dX8_spread_72 (by decide) rfl (fun c => ?_) (fun c => ?_)
      · have v := v.1 c
        exact zg_mask [true, true, false, true, false, true] (zsX8_spread_79 C _ _ _ _ _ _ v)
      · have v := v.2 c
        refine zg_iconst (v := 1) (q := 76) C dX8_spread_75 (by decide) rfl ?_
        refine zg_goto (t := 80) C dX8_spread_76 (by decide) ?_
        refine zg_iadd (q := 81) C dX8_spread_80 rfl ?_
        refine zg_istore (q := 83) C dX8_spread_81 (by decide) rfl ?_
        refine zg_iinc (v := 2) (q := 86) C dX8_spread_83 rfl (by decide) (by decide) rfl ?_
        refine zg_goto (t := 43) C dX8_spread_86 (by decide) ?_
        exact zg_mask [true, true, false, true, true, true] v
theorem rnX8_spread {E : Wd} {d : Nat} {a0 : Nat} {x1 : Int32} {x2 : Int32} {x3 : Int32} {h : Hp} {Q : Int32 → Hp → Prop} (k : ∀ (K43 : Nat → Int32 → Int32 → Int32 → Int32 → Hp → Prop),(∀ (a0 : Nat) (x1 : Int32) (x3 : Int32) (x4 : Int32) (x5 : Int32) h, vcX8_spread_43 E d K43 a0 x1 x3 x4 x5 h Q → K43 a0 x1 x3 x4 x5 h) → vcX8_spread_0 E d K43 a0 x1 x2 x3 h Q) : OkI E YX8_spread (d + 1) [.ref a0, .int x1, .int x2, .int x3] h Q :=
  zz_body2 (r := 2) mX8_spread (zc_a (zc_i (zc_i (zc_i zc_n)))) (Nat.le_of_ble_eq_true rfl) (fun X C => zsX8_spread_0 C a0 x1 x2 x3 h (k (zkX8_spread_43 E X) (fun a0 x1 x3 x4 x5 h v => zsX8_spread_43 C a0 x1 x3 x4 x5 h v)))
def vcX8_longest_0 (E : Wd) (d : Nat) (K40 : Nat → Int32 → Int32 → Int32 → Int32 → Int32 → Hp → Prop) (a0 : Nat) (x1 : Int32) (x2 : Int32) (h : Hp) (Q : Int32 → Hp → Prop) : Prop :=
  okI h a0 8 7 ∧ (¬ (fI h a0 7) = (0 : Int32) → OkI E YX8_isBetween d [.int x1, .int 0, .int 1] h (fun r2 h1 => (r2 = (0 : Int32) → Q ((-1)) h1) ∧ (¬ r2 = (0 : Int32) → OkI E YX8_isBetween d [.int x2, .int 0, .int 1] h1 (fun r4 h3 => (¬ r4 = (0 : Int32) → K40 a0 x1 x2 ((-5)) ((-5)) 0 h3) ∧ (r4 = (0 : Int32) → Q ((-1)) h3))))) ∧ ((fI h a0 7) = (0 : Int32) → Q ((-3)) h)
def vcX8_longest_40 (E : Wd) (d : Nat) (K40 : Nat → Int32 → Int32 → Int32 → Int32 → Int32 → Hp → Prop) (a0 : Nat) (x1 : Int32) (x2 : Int32) (x3 : Int32) (x4 : Int32) (x5 : Int32) (h : Hp) (Q : Int32 → Hp → Prop) : Prop :=
  okI h a0 8 20 ∧ ((fI h a0 20) ≤ x5 → (¬ x2 = (0 : Int32) → Q x4 h) ∧ (x2 = (0 : Int32) → Q x3 h)) ∧ (¬ (fI h a0 20) ≤ x5 → okA h a0 8 14 ∧ okR E h (fA h a0 14) 1 x5 ∧ ((gA h (fA h a0 14) x5) = (0 : Int32) → K40 a0 x1 x2 x3 x4 (x5 + 1) h) ∧ (¬ (gA h (fA h a0 14) x5) = (0 : Int32) → isO h a0 8 ∧ OkI E YX8_distanceOf d [.ref a0, .int x1, .int x5] h (fun r2 h1 => (r2 ≤ x3 → K40 a0 x1 x2 x3 x4 (x5 + 1) h1) ∧ (¬ r2 ≤ x3 → isO h1 a0 8 ∧ OkI E YX8_distanceOf d [.ref a0, .int x1, .int x5] h1 (fun r4 h3 => K40 a0 x1 x2 r4 x5 (x5 + 1) h3)))))
def zkX8_longest_40 (E : Wd) (X : Mx) : Nat → Int32 → Int32 → Int32 → Int32 → Int32 → Hp → Prop := fun a0 x1 x2 x3 x4 x5 h => GG E X 6 0 0 40 [some (.ref a0), some (.int x1), some (.int x2), some (.int x3), some (.int x4), some (.int x5)] [] h
set_option maxRecDepth 100000 in
set_option maxHeartbeats 4000000 in
theorem zsX8_longest_0 {E : Wd} {X : Mx} {d : Nat} {Q : Int32 → Hp → Prop} (C : zz_C E X YX8_longest (d + 1) 0 0 (fun r h' => ∃ x : Int32, r = some (.int x) ∧ Q x h')) (a0 : Nat) (x1 : Int32) (x2 : Int32) (h : Hp) (v : vcX8_longest_0 E d (zkX8_longest_40 E X) a0 x1 x2 h Q) : GG E X 6 0 0 0 [some (.ref a0), some (.int x1), some (.int x2), none, none, none] [] h := by
  refine zg_aload_n (q := 1) C dX8_longest_0 rfl rfl ?_
  refine zg_get (j := 7) (q := 4) C bX8 (by decide) lkX8_146 dX8_longest_1 rfl (okI.get v.1) ?_
  have v := v.2
  refine zg_if_ne (t := 10) (q := 7) C dX8_longest_4 (by decide) rfl (fun c => ?_) (fun c => ?_)
  · have v := v.1 c
    refine zg_iload_n (q := 11) C dX8_longest_10 rfl rfl ?_
    refine zg_iconst (v := 0) (q := 12) C dX8_longest_11 (by decide) rfl ?_
    refine zg_iconst (v := 1) (q := 13) C dX8_longest_12 (by decide) rfl ?_
    refine zg_cS3I (q := 16) C mX8_isBetween tX8_isBetween lmX8_86 rfl (Nat.le_of_ble_eq_true rfl) ⟨Nat.le_refl _, Nat.le_refl _⟩ dX8_longest_13 rfl v (fun r2 h1 v => ?_)
    refine zg_if_eq (t := 28) (q := 19) C dX8_longest_16 (by decide) rfl (fun c => ?_) (fun c => ?_)
    · have v := v.1 c
      refine zg_iconst (v := (-1)) (q := 29) C dX8_longest_28 (by decide) rfl ?_
      exact zg_iret C rfl dX8_longest_29 ⟨Nat.le_refl _, Nat.le_refl _⟩ ⟨_, rfl, v⟩
    · have v := v.2 c
      refine zg_iload_n (q := 20) C dX8_longest_19 rfl rfl ?_
      refine zg_iconst (v := 0) (q := 21) C dX8_longest_20 (by decide) rfl ?_
      refine zg_iconst (v := 1) (q := 22) C dX8_longest_21 (by decide) rfl ?_
      refine zg_cS3I (q := 25) C mX8_isBetween tX8_isBetween lmX8_86 rfl (Nat.le_of_ble_eq_true rfl) ⟨Nat.le_refl _, Nat.le_refl _⟩ dX8_longest_22 rfl v (fun r4 h3 v => ?_)
      refine zg_if_ne (t := 30) (q := 28) C dX8_longest_25 (by decide) rfl (fun c => ?_) (fun c => ?_)
      · have v := v.1 c
        refine zg_bipush (v := (-5)) (q := 32) C dX8_longest_30 (by decide) rfl ?_
        refine zg_istore_n (q := 33) C dX8_longest_32 (by decide) rfl ?_
        refine zg_bipush (v := (-5)) (q := 35) C dX8_longest_33 (by decide) rfl ?_
        refine zg_istore (q := 37) C dX8_longest_35 (by decide) rfl ?_
        refine zg_iconst (v := 0) (q := 38) C dX8_longest_37 (by decide) rfl ?_
        refine zg_istore (q := 40) C dX8_longest_38 (by decide) rfl ?_
        exact zg_mask [true, true, true, true, true, true] v
      · have v := v.2 c
        refine zg_iconst (v := (-1)) (q := 29) C dX8_longest_28 (by decide) rfl ?_
        exact zg_iret C rfl dX8_longest_29 ⟨Nat.le_refl _, Nat.le_refl _⟩ ⟨_, rfl, v⟩
  · have v := v.2 c
    refine zg_bipush (v := (-3)) (q := 9) C dX8_longest_7 (by decide) rfl ?_
    exact zg_iret C rfl dX8_longest_9 ⟨Nat.le_refl _, Nat.le_refl _⟩ ⟨_, rfl, v⟩
set_option maxRecDepth 100000 in
set_option maxHeartbeats 4000000 in
theorem zsX8_longest_40 {E : Wd} {X : Mx} {d : Nat} {Q : Int32 → Hp → Prop} (C : zz_C E X YX8_longest (d + 1) 0 0 (fun r h' => ∃ x : Int32, r = some (.int x) ∧ Q x h')) (a0 : Nat) (x1 : Int32) (x2 : Int32) (x3 : Int32) (x4 : Int32) (x5 : Int32) (h : Hp) (v : vcX8_longest_40 E d (zkX8_longest_40 E X) a0 x1 x2 x3 x4 x5 h Q) : GG E X 6 0 0 40 [some (.ref a0), some (.int x1), some (.int x2), some (.int x3), some (.int x4), some (.int x5)] [] h := by
  refine zg_iload (q := 42) C dX8_longest_40 rfl rfl ?_
  refine zg_aload_n (q := 43) C dX8_longest_42 rfl rfl ?_
  refine zg_get (j := 20) (q := 46) C bX8 (by decide) lkX8_213 dX8_longest_43 rfl (okI.get v.1) ?_
  have v := v.2
  refine zg_icmp_ge (t := 88) (q := 49) C dX8_longest_46 (by decide) rfl (fun c => ?_) (fun c => ?_)
  · have v := v.1 c
    refine zg_iload_n (q := 89) C dX8_longest_88 rfl rfl ?_
    refine zg_if_ne (t := 96) (q := 92) C dX8_longest_89 (by decide) rfl (fun c => ?_) (fun c => ?_)
    · have v := v.1 c
      refine zg_iload (q := 98) C dX8_longest_96 rfl rfl ?_
      exact zg_iret C rfl dX8_longest_98 ⟨Nat.le_refl _, Nat.le_refl _⟩ ⟨_, rfl, v⟩
    · have v := v.2 c
      refine zg_iload_n (q := 93) C dX8_longest_92 rfl rfl ?_
      refine zg_goto (t := 98) C dX8_longest_93 (by decide) ?_
      exact zg_iret C rfl dX8_longest_98 ⟨Nat.le_refl _, Nat.le_refl _⟩ ⟨_, rfl, v⟩
  · have v := v.2 c
    refine zg_aload_n (q := 50) C dX8_longest_49 rfl rfl ?_
    refine zg_get (j := 14) (q := 53) C bX8 (by decide) lkX8_42 dX8_longest_50 rfl (okA.get v.1) ?_
    have v := v.2
    refine zg_iload (q := 55) C dX8_longest_53 rfl rfl ?_
    refine zg_zald (q := 56) C dX8_longest_55 rfl v.1 ?_
    have v := v.2
    refine zg_if_eq (t := 82) (q := 59) C dX8_longest_56 (by decide) rfl (fun c => ?_) (fun c => ?_)
    · have v := v.1 c
      refine zg_iinc (v := 1) (q := 85) C dX8_longest_82 rfl (by decide) (by decide) rfl ?_
      refine zg_goto (t := 40) C dX8_longest_85 (by decide) ?_
      exact zg_mask [true, true, true, true, true, true] v
    · have v := v.2 c
      refine zg_aload_n (q := 60) C dX8_longest_59 rfl rfl ?_
      refine zg_iload_n (q := 61) C dX8_longest_60 rfl rfl ?_
      refine zg_iload (q := 63) C dX8_longest_61 rfl rfl ?_
      refine zg_cV2I (q := 66) C mX8_distanceOf vX8_distanceOf lmX8_287 rfl (bX8).1 v.1 (Nat.le_of_ble_eq_true rfl) ⟨Nat.le_refl _, Nat.le_refl _⟩ dX8_longest_63 rfl v.2 (fun r2 h1 v => ?_)
      refine zg_iload_n (q := 67) C dX8_longest_66 rfl rfl ?_
      refine zg_icmp_le (t := 82) (q := 70) C dX8_longest_67 (by decide) rfl (fun c => ?_) (fun c => ?_)
      · have v := v.1 c
        refine zg_iinc (v := 1) (q := 85) C dX8_longest_82 rfl (by decide) (by decide) rfl ?_
        refine zg_goto (t := 40) C dX8_longest_85 (by decide) ?_
        exact zg_mask [true, true, true, true, true, true] v
      · have v := v.2 c
        refine zg_aload_n (q := 71) C dX8_longest_70 rfl rfl ?_
        refine zg_iload_n (q := 72) C dX8_longest_71 rfl rfl ?_
        refine zg_iload (q := 74) C dX8_longest_72 rfl rfl ?_
        refine zg_cV2I (q := 77) C mX8_distanceOf vX8_distanceOf lmX8_287 rfl (bX8).1 v.1 (Nat.le_of_ble_eq_true rfl) ⟨Nat.le_refl _, Nat.le_refl _⟩ dX8_longest_74 rfl v.2 (fun r4 h3 v => ?_)
        refine zg_istore_n (q := 78) C dX8_longest_77 (by decide) rfl ?_
        refine zg_iload (q := 80) C dX8_longest_78 rfl rfl ?_
        refine zg_istore (q := 82) C dX8_longest_80 (by decide) rfl ?_
        refine zg_iinc (v := 1) (q := 85) C dX8_longest_82 rfl (by decide) (by decide) rfl ?_
        refine zg_goto (t := 40) C dX8_longest_85 (by decide) ?_
        exact zg_mask [true, true, true, true, true, true] v
theorem rnX8_longest {E : Wd} {d : Nat} {a0 : Nat} {x1 : Int32} {x2 : Int32} {h : Hp} {Q : Int32 → Hp → Prop} (k : ∀ (K40 : Nat → Int32 → Int32 → Int32 → Int32 → Int32 → Hp → Prop),(∀ (a0 : Nat) (x1 : Int32) (x2 : Int32) (x3 : Int32) (x4 : Int32) (x5 : Int32) h, vcX8_longest_40 E d K40 a0 x1 x2 x3 x4 x5 h Q → K40 a0 x1 x2 x3 x4 x5 h) → vcX8_longest_0 E d K40 a0 x1 x2 h Q) : OkI E YX8_longest (d + 1) [.ref a0, .int x1, .int x2] h Q :=
  zz_body2 (r := 3) mX8_longest (zc_a (zc_i (zc_i zc_n))) (Nat.le_of_ble_eq_true rfl) (fun X C => zsX8_longest_0 C a0 x1 x2 h (k (zkX8_longest_40 E X) (fun a0 x1 x2 x3 x4 x5 h v => zsX8_longest_40 C a0 x1 x2 x3 x4 x5 h v)))
def vcX8_zugzwang_0 (E : Wd) (d : Nat) (K17 : Nat → Int32 → Int32 → Int32 → Int32 → Hp → Prop) (a0 : Nat) (x1 : Int32) (h : Hp) (Q : Int32 → Hp → Prop) : Prop :=
  okI h a0 8 7 ∧ (¬ (fI h a0 7) = (0 : Int32) → K17 a0 x1 ((-1)) 0 0 h) ∧ ((fI h a0 7) = (0 : Int32) → Q ((-3)) h)
def vcX8_zugzwang_17 (E : Wd) (d : Nat) (K17 : Nat → Int32 → Int32 → Int32 → Int32 → Hp → Prop) (a0 : Nat) (x1 : Int32) (x2 : Int32) (x3 : Int32) (x4 : Int32) (h : Hp) (Q : Int32 → Hp → Prop) : Prop :=
  okI h a0 8 20 ∧ ((fI h a0 20) ≤ x4 → (¬ x1 = ((-1)) → Q x2 h) ∧ (x1 = ((-1)) → Q x3 h)) ∧ (¬ (fI h a0 20) ≤ x4 → okA h a0 8 14 ∧ okR E h (fA h a0 14) 1 x4 ∧ ((gA h (fA h a0 14) x4) = (0 : Int32) → K17 a0 x1 x2 x3 (x4 + 2) h) ∧ (¬ (gA h (fA h a0 14) x4) = (0 : Int32) → okA h a0 8 14 ∧ okR E h (fA h a0 14) 1 (x4 + (1 : Int32)) ∧ ((gA h (fA h a0 14) (x4 + (1 : Int32))) = (0 : Int32) → K17 a0 x1 x2 x3 (x4 + 2) h) ∧ (¬ (gA h (fA h a0 14) (x4 + (1 : Int32))) = (0 : Int32) → okA h a0 8 17 ∧ okR E h (fA h a0 17) 0 x4 ∧ okA h a0 8 17 ∧ okR E h (fA h a0 17) 0 (x4 + (1 : Int32)) ∧ ((-(gA h (fA h a0 17) (x4 + (1 : Int32)))) ≤ (gA h (fA h a0 17) x4) → K17 a0 x1 x2 x3 (x4 + 2) h) ∧ (¬ (-(gA h (fA h a0 17) (x4 + (1 : Int32)))) ≤ (gA h (fA h a0 17) x4) → (¬ x3 = x1 → K17 a0 x1 x2 (x3 + 1) (x4 + 2) h) ∧ (x3 = x1 → K17 a0 x1 x4 (x3 + 1) (x4 + 2) h)))))
def zkX8_zugzwang_17 (E : Wd) (X : Mx) : Nat → Int32 → Int32 → Int32 → Int32 → Hp → Prop := fun a0 x1 x2 x3 x4 h => GG E X 5 0 0 17 [some (.ref a0), some (.int x1), some (.int x2), some (.int x3), some (.int x4)] [] h
set_option maxRecDepth 100000 in
set_option maxHeartbeats 4000000 in
theorem zsX8_zugzwang_0 {E : Wd} {X : Mx} {d : Nat} {Q : Int32 → Hp → Prop} (C : zz_C E X YX8_zugzwang d 0 0 (fun r h' => ∃ x : Int32, r = some (.int x) ∧ Q x h')) (a0 : Nat) (x1 : Int32) (h : Hp) (v : vcX8_zugzwang_0 E d (zkX8_zugzwang_17 E X) a0 x1 h Q) : GG E X 5 0 0 0 [some (.ref a0), some (.int x1), none, none, none] [] h := by
  refine zg_aload_n (q := 1) C dX8_zugzwang_0 rfl rfl ?_
  refine zg_get (j := 7) (q := 4) C bX8 (by decide) lkX8_146 dX8_zugzwang_1 rfl (okI.get v.1) ?_
  have v := v.2
  refine zg_if_ne (t := 10) (q := 7) C dX8_zugzwang_4 (by decide) rfl (fun c => ?_) (fun c => ?_)
  · have v := v.1 c
    refine zg_iconst (v := (-1)) (q := 11) C dX8_zugzwang_10 (by decide) rfl ?_
    refine zg_istore_n (q := 12) C dX8_zugzwang_11 (by decide) rfl ?_
    refine zg_iconst (v := 0) (q := 13) C dX8_zugzwang_12 (by decide) rfl ?_
    refine zg_istore_n (q := 14) C dX8_zugzwang_13 (by decide) rfl ?_
    refine zg_iconst (v := 0) (q := 15) C dX8_zugzwang_14 (by decide) rfl ?_
    refine zg_istore (q := 17) C dX8_zugzwang_15 (by decide) rfl ?_
    exact zg_mask [true, true, true, true, true] v
  · have v := v.2 c
    refine zg_bipush (v := (-3)) (q := 9) C dX8_zugzwang_7 (by decide) rfl ?_
    exact zg_iret C rfl dX8_zugzwang_9 ⟨Nat.le_refl _, Nat.le_refl _⟩ ⟨_, rfl, v⟩
set_option maxRecDepth 100000 in
set_option maxHeartbeats 4000000 in
theorem zsX8_zugzwang_17 {E : Wd} {X : Mx} {d : Nat} {Q : Int32 → Hp → Prop} (C : zz_C E X YX8_zugzwang d 0 0 (fun r h' => ∃ x : Int32, r = some (.int x) ∧ Q x h')) (a0 : Nat) (x1 : Int32) (x2 : Int32) (x3 : Int32) (x4 : Int32) (h : Hp) (v : vcX8_zugzwang_17 E d (zkX8_zugzwang_17 E X) a0 x1 x2 x3 x4 h Q) : GG E X 5 0 0 17 [some (.ref a0), some (.int x1), some (.int x2), some (.int x3), some (.int x4)] [] h := by
  refine zg_iload (q := 19) C dX8_zugzwang_17 rfl rfl ?_
  refine zg_aload_n (q := 20) C dX8_zugzwang_19 rfl rfl ?_
  refine zg_get (j := 20) (q := 23) C bX8 (by decide) lkX8_213 dX8_zugzwang_20 rfl (okI.get v.1) ?_
  have v := v.2
  refine zg_icmp_ge (t := 89) (q := 26) C dX8_zugzwang_23 (by decide) rfl (fun c => ?_) (fun c => ?_)
  · have v := v.1 c
    refine zg_iload_n (q := 90) C dX8_zugzwang_89 rfl rfl ?_
    refine zg_iconst (v := (-1)) (q := 91) C dX8_zugzwang_90 (by decide) rfl ?_
    refine zg_icmp_ne (t := 98) (q := 94) C dX8_zugzwang_91 (by decide) rfl (fun c => ?_) (fun c => ?_)
    · have v := v.1 c
      refine zg_iload_n (q := 99) C dX8_zugzwang_98 rfl rfl ?_
      exact zg_iret C rfl dX8_zugzwang_99 ⟨Nat.le_refl _, Nat.le_refl _⟩ ⟨_, rfl, v⟩
    · have v := v.2 c
      refine zg_iload_n (q := 95) C dX8_zugzwang_94 rfl rfl ?_
      refine zg_goto (t := 99) C dX8_zugzwang_95 (by decide) ?_
      exact zg_iret C rfl dX8_zugzwang_99 ⟨Nat.le_refl _, Nat.le_refl _⟩ ⟨_, rfl, v⟩
  · have v := v.2 c
    refine zg_aload_n (q := 27) C dX8_zugzwang_26 rfl rfl ?_
    refine zg_get (j := 14) (q := 30) C bX8 (by decide) lkX8_42 dX8_zugzwang_27 rfl (okA.get v.1) ?_
    have v := v.2
    refine zg_iload (q := 32) C dX8_zugzwang_30 rfl rfl ?_
    refine zg_zald (q := 33) C dX8_zugzwang_32 rfl v.1 ?_
    have v := v.2
    refine zg_if_eq (t := 83) (q := 36) C dX8_zugzwang_33 (by decide) rfl (fun c => ?_) (fun c => ?_)
    · have v := v.1 c
      refine zg_iinc (v := 2) (q := 86) C dX8_zugzwang_83 rfl (by decide) (by decide) rfl ?_
      refine zg_goto (t := 17) C dX8_zugzwang_86 (by decide) ?_
      exact zg_mask [true, true, true, true, true] v
    · have v := v.2 c
      refine zg_aload_n (q := 37) C dX8_zugzwang_36 rfl rfl ?_
      refine zg_get (j := 14) (q := 40) C bX8 (by decide) lkX8_42 dX8_zugzwang_37 rfl (okA.get v.1) ?_
      have v := v.2
      refine zg_iload (q := 42) C dX8_zugzwang_40 rfl rfl ?_
      refine zg_iconst (v := 1) (q := 43) C dX8_zugzwang_42 (by decide) rfl ?_
      refine zg_iadd (q := 44) C dX8_zugzwang_43 rfl ?_
      refine zg_zald (q := 45) C dX8_zugzwang_44 rfl v.1 ?_
      have v := v.2
      refine zg_if_eq (t := 83) (q := 48) C dX8_zugzwang_45 (by decide) rfl (fun c => ?_) (fun c => ?_)
      · have v := v.1 c
        refine zg_iinc (v := 2) (q := 86) C dX8_zugzwang_83 rfl (by decide) (by decide) rfl ?_
        refine zg_goto (t := 17) C dX8_zugzwang_86 (by decide) ?_
        exact zg_mask [true, true, true, true, true] v
      · have v := v.2 c
        refine zg_aload_n (q := 49) C dX8_zugzwang_48 rfl rfl ?_
        refine zg_get (j := 17) (q := 52) C bX8 (by decide) lkX8_52 dX8_zugzwang_49 rfl (okA.get v.1) ?_
        have v := v.2
        refine zg_iload (q := 54) C dX8_zugzwang_52 rfl rfl ?_
        refine zg_iald (q := 55) C dX8_zugzwang_54 rfl v.1 ?_
        have v := v.2
        refine zg_aload_n (q := 56) C dX8_zugzwang_55 rfl rfl ?_
        refine zg_get (j := 17) (q := 59) C bX8 (by decide) lkX8_52 dX8_zugzwang_56 rfl (okA.get v.1) ?_
        have v := v.2
        refine zg_iload (q := 61) C dX8_zugzwang_59 rfl rfl ?_
        refine zg_iconst (v := 1) (q := 62) C dX8_zugzwang_61 (by decide) rfl ?_
        refine zg_iadd (q := 63) C dX8_zugzwang_62 rfl ?_
        refine zg_iald (q := 64) C dX8_zugzwang_63 rfl v.1 ?_
        have v := v.2
        refine zg_ineg (q := 65) C dX8_zugzwang_64 rfl ?_
        refine zg_icmp_ge (t := 83) (q := 68) C dX8_zugzwang_65 (by decide) rfl (fun c => ?_) (fun c => ?_)
        · have v := v.1 c
          refine zg_iinc (v := 2) (q := 86) C dX8_zugzwang_83 rfl (by decide) (by decide) rfl ?_
          refine zg_goto (t := 17) C dX8_zugzwang_86 (by decide) ?_
          exact zg_mask [true, true, true, true, true] v
        · have v := v.2 c
          refine zg_iload_n (q := 69) C dX8_zugzwang_68 rfl rfl ?_
          refine zg_iload_n (q := 70) C dX8_zugzwang_69 rfl rfl ?_
          refine zg_icmp_ne (t := 78) (q := 73) C dX8_zugzwang_70 (by decide) rfl (fun c => ?_) (fun c => ?_)
          · have v := v.1 c
            refine zg_iload_n (q := 79) C dX8_zugzwang_78 rfl rfl ?_
            refine zg_istore_n (q := 80) C dX8_zugzwang_79 (by decide) rfl ?_
            refine zg_iinc (v := 1) (q := 83) C dX8_zugzwang_80 rfl (by decide) (by decide) rfl ?_
            refine zg_iinc (v := 2) (q := 86) C dX8_zugzwang_83 rfl (by decide) (by decide) rfl ?_
            refine zg_goto (t := 17) C dX8_zugzwang_86 (by decide) ?_
            exact zg_mask [true, true, true, true, true] v
          · have v := v.2 c
            refine zg_iload (q := 75) C dX8_zugzwang_73 rfl rfl ?_
            refine zg_goto (t := 79) C dX8_zugzwang_75 (by decide) ?_
            refine zg_istore_n (q := 80) C dX8_zugzwang_79 (by decide) rfl ?_
            refine zg_iinc (v := 1) (q := 83) C dX8_zugzwang_80 rfl (by decide) (by decide) rfl ?_
            refine zg_iinc (v := 2) (q := 86) C dX8_zugzwang_83 rfl (by decide) (by decide) rfl ?_
            refine zg_goto (t := 17) C dX8_zugzwang_86 (by decide) ?_
            exact zg_mask [true, true, true, true, true] v
theorem rnX8_zugzwang {E : Wd} {d : Nat} {a0 : Nat} {x1 : Int32} {h : Hp} {Q : Int32 → Hp → Prop} (k : ∀ (K17 : Nat → Int32 → Int32 → Int32 → Int32 → Hp → Prop),(∀ (a0 : Nat) (x1 : Int32) (x2 : Int32) (x3 : Int32) (x4 : Int32) h, vcX8_zugzwang_17 E d K17 a0 x1 x2 x3 x4 h Q → K17 a0 x1 x2 x3 x4 h) → vcX8_zugzwang_0 E d K17 a0 x1 h Q) : OkI E YX8_zugzwang d [.ref a0, .int x1] h Q :=
  zz_body2 (r := 3) mX8_zugzwang (zc_a (zc_i zc_n)) (Nat.le_of_ble_eq_true rfl) (fun X C => zsX8_zugzwang_0 C a0 x1 h (k (zkX8_zugzwang_17 E X) (fun a0 x1 x2 x3 x4 h v => zsX8_zugzwang_17 C a0 x1 x2 x3 x4 h v)))
def vcX8_unlike_0 (E : Wd) (d : Nat) (K19 : Nat → Int32 → Int32 → Int32 → Hp → Prop) (a0 : Nat) (h : Hp) (Q : Int32 → Hp → Prop) : Prop :=
  isO h a0 8 ∧ OkI E YX8_isPlaying d [.ref a0] h (fun r2 h1 => (¬ r2 = (0 : Int32) → isO h1 a0 8 ∧ OkI E YX8_here d [.ref a0] h1 (fun r4 h3 => K19 a0 r4 0 0 h3)) ∧ (r2 = (0 : Int32) → Q ((-3)) h1))
def vcX8_unlike_89 (E : Wd) (d : Nat) (K19 : Nat → Int32 → Int32 → Int32 → Hp → Prop) (a0 : Nat) (x1 : Int32) (x3 : Int32) (s0 : Int32) (h : Hp) (Q : Int32 → Hp → Prop) : Prop :=
  K19 a0 x1 (s0 + (1 : Int32)) (x3 + 1) h
def vcX8_unlike_93 (E : Wd) (d : Nat) (K19 : Nat → Int32 → Int32 → Int32 → Hp → Prop) (a0 : Nat) (x1 : Int32) (x3 : Int32) (s0 : Int32) (h : Hp) (Q : Int32 → Hp → Prop) : Prop :=
  K19 a0 x1 (s0 + (0 : Int32)) (x3 + 1) h
def vcX8_unlike_19 (E : Wd) (d : Nat) (K19 : Nat → Int32 → Int32 → Int32 → Hp → Prop) (a0 : Nat) (x1 : Int32) (x2 : Int32) (x3 : Int32) (h : Hp) (Q : Int32 → Hp → Prop) : Prop :=
  okI h a0 8 20 ∧ ((fI h a0 20) ≤ x3 → Q x2 h) ∧ (¬ (fI h a0 20) ≤ x3 → okA h a0 8 14 ∧ okR E h (fA h a0 14) 1 x3 ∧ ((gA h (fA h a0 14) x3) = (0 : Int32) → K19 a0 x1 x2 (x3 + 1) h) ∧ (¬ (gA h (fA h a0 14) x3) = (0 : Int32) → isO h a0 8 ∧ OkI E YX8_canonical d [.ref a0, .int x3] h (fun r2 h1 => isO h1 a0 8 ∧ OkI E YX8_canonical d [.ref a0, .int x1] h1 (fun r4 h3 => (¬ r2 = r4 → K19 a0 x1 x2 (x3 + 1) h3) ∧ (r2 = r4 → isO h3 a0 8 ∧ OkI E YX8_searchFrom d [.ref a0, .int x3, .int 2] h3 (fun r6 h5 => okA h5 a0 8 17 ∧ okR E h5 (fA h5 a0 17) 0 x3 ∧ okA h5 a0 8 17 ∧ okR E h5 (fA h5 a0 17) 0 x1 ∧ (¬ (gA h5 (fA h5 a0 17) x3) = (gA h5 (fA h5 a0 17) x1) → vcX8_unlike_89 E d K19 a0 x1 x3 x2 h5 Q) ∧ ((gA h5 (fA h5 a0 17) x3) = (gA h5 (fA h5 a0 17) x1) → (r6 = (0 : Int32) → vcX8_unlike_93 E d K19 a0 x1 x3 x2 h5 Q) ∧ (¬ r6 = (0 : Int32) → okA h5 a0 8 17 ∧ okR E h5 (fA h5 a0 17) 0 x3 ∧ (r6 = (gA h5 (fA h5 a0 17) x3) → vcX8_unlike_93 E d K19 a0 x1 x3 x2 h5 Q) ∧ (¬ r6 = (gA h5 (fA h5 a0 17) x3) → vcX8_unlike_89 E d K19 a0 x1 x3 x2 h5 Q)))))))))
def zkX8_unlike_19 (E : Wd) (X : Mx) : Nat → Int32 → Int32 → Int32 → Hp → Prop := fun a0 x1 x2 x3 h => GG E X 5 0 0 19 [some (.ref a0), some (.int x1), some (.int x2), some (.int x3), none] [] h
set_option maxRecDepth 100000 in
set_option maxHeartbeats 4000000 in
theorem zsX8_unlike_0 {E : Wd} {X : Mx} {d : Nat} {Q : Int32 → Hp → Prop} (C : zz_C E X YX8_unlike (d + 1) 0 0 (fun r h' => ∃ x : Int32, r = some (.int x) ∧ Q x h')) (a0 : Nat) (h : Hp) (v : vcX8_unlike_0 E d (zkX8_unlike_19 E X) a0 h Q) : GG E X 5 0 0 0 [some (.ref a0), none, none, none, none] [] h := by
  refine zg_aload_n (q := 1) C dX8_unlike_0 rfl rfl ?_
  refine zg_cV0I (q := 4) C mX8_isPlaying vX8_isPlaying lmX8_257 rfl (bX8).1 v.1 (Nat.le_of_ble_eq_true rfl) ⟨Nat.le_refl _, Nat.le_refl _⟩ dX8_unlike_1 rfl v.2 (fun r2 h1 v => ?_)
  refine zg_if_ne (t := 10) (q := 7) C dX8_unlike_4 (by decide) rfl (fun c => ?_) (fun c => ?_)
  · have v := v.1 c
    refine zg_aload_n (q := 11) C dX8_unlike_10 rfl rfl ?_
    refine zg_cV0I (q := 14) C mX8_here vX8_here lmX8_260 rfl (bX8).1 v.1 (Nat.le_of_ble_eq_true rfl) ⟨Nat.le_refl _, Nat.le_refl _⟩ dX8_unlike_11 rfl v.2 (fun r4 h3 v => ?_)
    refine zg_istore_n (q := 15) C dX8_unlike_14 (by decide) rfl ?_
    refine zg_iconst (v := 0) (q := 16) C dX8_unlike_15 (by decide) rfl ?_
    refine zg_istore_n (q := 17) C dX8_unlike_16 (by decide) rfl ?_
    refine zg_iconst (v := 0) (q := 18) C dX8_unlike_17 (by decide) rfl ?_
    refine zg_istore_n (q := 19) C dX8_unlike_18 (by decide) rfl ?_
    exact zg_mask [true, true, true, true, false] v
  · have v := v.2 c
    refine zg_bipush (v := (-3)) (q := 9) C dX8_unlike_7 (by decide) rfl ?_
    exact zg_iret C rfl dX8_unlike_9 ⟨Nat.le_refl _, Nat.le_refl _⟩ ⟨_, rfl, v⟩
set_option maxRecDepth 100000 in
set_option maxHeartbeats 4000000 in
theorem zsX8_unlike_89 {E : Wd} {X : Mx} {d : Nat} {Q : Int32 → Hp → Prop} (C : zz_C E X YX8_unlike (d + 1) 0 0 (fun r h' => ∃ x : Int32, r = some (.int x) ∧ Q x h')) (a0 : Nat) (x1 : Int32) (x3 : Int32) (s0 : Int32) (h : Hp) (v : vcX8_unlike_89 E d (zkX8_unlike_19 E X) a0 x1 x3 s0 h Q) : GG E X 5 0 0 89 [some (.ref a0), some (.int x1), none, some (.int x3), none] [.int s0] h := by
  refine zg_iconst (v := 1) (q := 90) C dX8_unlike_89 (by decide) rfl ?_
  refine zg_goto (t := 94) C dX8_unlike_90 (by decide) ?_
  refine zg_iadd (q := 95) C dX8_unlike_94 rfl ?_
  refine zg_istore_n (q := 96) C dX8_unlike_95 (by decide) rfl ?_
  refine zg_iinc (v := 1) (q := 99) C dX8_unlike_96 rfl (by decide) (by decide) rfl ?_
  refine zg_goto (t := 19) C dX8_unlike_99 (by decide) ?_
  exact zg_mask [true, true, true, true, false] v
set_option maxRecDepth 100000 in
set_option maxHeartbeats 4000000 in
theorem zsX8_unlike_93 {E : Wd} {X : Mx} {d : Nat} {Q : Int32 → Hp → Prop} (C : zz_C E X YX8_unlike (d + 1) 0 0 (fun r h' => ∃ x : Int32, r = some (.int x) ∧ Q x h')) (a0 : Nat) (x1 : Int32) (x3 : Int32) (s0 : Int32) (h : Hp) (v : vcX8_unlike_93 E d (zkX8_unlike_19 E X) a0 x1 x3 s0 h Q) : GG E X 5 0 0 93 [some (.ref a0), some (.int x1), none, some (.int x3), none] [.int s0] h := by
  refine zg_iconst (v := 0) (q := 94) C dX8_unlike_93 (by decide) rfl ?_
  refine zg_iadd (q := 95) C dX8_unlike_94 rfl ?_
  refine zg_istore_n (q := 96) C dX8_unlike_95 (by decide) rfl ?_
  refine zg_iinc (v := 1) (q := 99) C dX8_unlike_96 rfl (by decide) (by decide) rfl ?_
  refine zg_goto (t := 19) C dX8_unlike_99 (by decide) ?_
  exact zg_mask [true, true, true, true, false] v
set_option maxRecDepth 100000 in
set_option maxHeartbeats 4000000 in
theorem zsX8_unlike_19 {E : Wd} {X : Mx} {d : Nat} {Q : Int32 → Hp → Prop} (C : zz_C E X YX8_unlike (d + 1) 0 0 (fun r h' => ∃ x : Int32, r = some (.int x) ∧ Q x h')) (a0 : Nat) (x1 : Int32) (x2 : Int32) (x3 : Int32) (h : Hp) (v : vcX8_unlike_19 E d (zkX8_unlike_19 E X) a0 x1 x2 x3 h Q) : GG E X 5 0 0 19 [some (.ref a0), some (.int x1), some (.int x2), some (.int x3), none] [] h := by
  refine zg_iload_n (q := 20) C dX8_unlike_19 rfl rfl ?_
  refine zg_aload_n (q := 21) C dX8_unlike_20 rfl rfl ?_
  refine zg_get (j := 20) (q := 24) C bX8 (by decide) lkX8_213 dX8_unlike_21 rfl (okI.get v.1) ?_
  have v := v.2
  refine zg_icmp_ge (t := 102) (q := 27) C dX8_unlike_24 (by decide) rfl (fun c => ?_) (fun c => ?_)
  · have v := v.1 c
    refine zg_iload_n (q := 103) C dX8_unlike_102 rfl rfl ?_
    exact zg_iret C rfl dX8_unlike_103 ⟨Nat.le_refl _, Nat.le_refl _⟩ ⟨_, rfl, v⟩
  · have v := v.2 c
    refine zg_aload_n (q := 28) C dX8_unlike_27 rfl rfl ?_
    refine zg_get (j := 14) (q := 31) C bX8 (by decide) lkX8_42 dX8_unlike_28 rfl (okA.get v.1) ?_
    have v := v.2
    refine zg_iload_n (q := 32) C dX8_unlike_31 rfl rfl ?_
    refine zg_zald (q := 33) C dX8_unlike_32 rfl v.1 ?_
    have v := v.2
    refine zg_if_eq (t := 96) (q := 36) C dX8_unlike_33 (by decide) rfl (fun c => ?_) (fun c => ?_)
    · have v := v.1 c
      refine zg_iinc (v := 1) (q := 99) C dX8_unlike_96 rfl (by decide) (by decide) rfl ?_
      refine zg_goto (t := 19) C dX8_unlike_99 (by decide) ?_
      exact zg_mask [true, true, true, true, false] v
    · have v := v.2 c
      refine zg_aload_n (q := 37) C dX8_unlike_36 rfl rfl ?_
      refine zg_iload_n (q := 38) C dX8_unlike_37 rfl rfl ?_
      refine zg_cV1I (q := 41) C mX8_canonical vX8_canonical lmX8_266 rfl (bX8).1 v.1 (Nat.le_of_ble_eq_true rfl) ⟨Nat.le_refl _, Nat.le_refl _⟩ dX8_unlike_38 rfl v.2 (fun r2 h1 v => ?_)
      refine zg_aload_n (q := 42) C dX8_unlike_41 rfl rfl ?_
      refine zg_iload_n (q := 43) C dX8_unlike_42 rfl rfl ?_
      refine zg_cV1I (q := 46) C mX8_canonical vX8_canonical lmX8_266 rfl (bX8).1 v.1 (Nat.le_of_ble_eq_true rfl) ⟨Nat.le_refl _, Nat.le_refl _⟩ dX8_unlike_43 rfl v.2 (fun r4 h3 v => ?_)
      refine zg_icmp_ne (t := 96) (q := 49) C dX8_unlike_46 (by decide) rfl (fun c => ?_) (fun c => ?_)
      · have v := v.1 c
        refine zg_iinc (v := 1) (q := 99) C dX8_unlike_96 rfl (by decide) (by decide) rfl ?_
        refine zg_goto (t := 19) C dX8_unlike_99 (by decide) ?_
        exact zg_mask [true, true, true, true, false] v
      · have v := v.2 c
        refine zg_aload_n (q := 50) C dX8_unlike_49 rfl rfl ?_
        refine zg_iload_n (q := 51) C dX8_unlike_50 rfl rfl ?_
        refine zg_iconst (v := 2) (q := 52) C dX8_unlike_51 (by decide) rfl ?_
        refine zg_cV2I (q := 55) C mX8_searchFrom vX8_searchFrom lmX8_281 rfl (bX8).1 v.1 (Nat.le_of_ble_eq_true rfl) ⟨Nat.le_refl _, Nat.le_refl _⟩ dX8_unlike_52 rfl v.2 (fun r6 h5 v => ?_)
        refine zg_istore (q := 57) C dX8_unlike_55 (by decide) rfl ?_
        refine zg_iload_n (q := 58) C dX8_unlike_57 rfl rfl ?_
        refine zg_aload_n (q := 59) C dX8_unlike_58 rfl rfl ?_
        refine zg_get (j := 17) (q := 62) C bX8 (by decide) lkX8_52 dX8_unlike_59 rfl (okA.get v.1) ?_
        have v := v.2
        refine zg_iload_n (q := 63) C dX8_unlike_62 rfl rfl ?_
        refine zg_iald (q := 64) C dX8_unlike_63 rfl v.1 ?_
        have v := v.2
        refine zg_aload_n (q := 65) C dX8_unlike_64 rfl rfl ?_
        refine zg_get (j := 17) (q := 68) C bX8 (by decide) lkX8_52 dX8_unlike_65 rfl (okA.get v.1) ?_
        have v := v.2
        refine zg_iload_n (q := 69) C dX8_unlike_68 rfl rfl ?_
        refine zg_iald (q := 70) C dX8_unlike_69 rfl v.1 ?_
        have v := v.2
        refine zg_icmp_ne (t := 89) (q := 73) C dX8_unlike_70 (by decide) rfl (fun c => ?_) (fun c => ?_)
        · have v := v.1 c
          exact zg_mask [true, true, false, true, false] (zsX8_unlike_89 C _ _ _ _ _ v)
        · have v := v.2 c
          refine zg_iload (q := 75) C dX8_unlike_73 rfl rfl ?_
          refine zg_if_eq (t := 93) (q := 78) C dX8_unlike_75 (by decide) rfl (fun c => ?_) (fun c => ?_)
          · have v := v.1 c
            exact zg_mask [true, true, false, true, false] (zsX8_unlike_93 C _ _ _ _ _ v)
          · have v := v.2 c
            refine zg_iload (q := 80) C dX8_unlike_78 rfl rfl ?_
            refine zg_aload_n (q := 81) C dX8_unlike_80 rfl rfl ?_
            refine zg_get (j := 17) (q := 84) C bX8 (by decide) lkX8_52 dX8_unlike_81 rfl (okA.get v.1) ?_
            have v := v.2
            refine zg_iload_n (q := 85) C dX8_unlike_84 rfl rfl ?_
            refine zg_iald (q := 86) C dX8_unlike_85 rfl v.1 ?_
            have v := v.2
            refine zg_icmp_eq (t := 93) (q := 89) C dX8_unlike_86 (by decide) rfl (fun c => ?_) (fun c => ?_)
            · have v := v.1 c
              exact zg_mask [true, true, false, true, false] (zsX8_unlike_93 C _ _ _ _ _ v)
            · have v := v.2 c
              exact zg_mask [true, true, false, true, false] (zsX8_unlike_89 C _ _ _ _ _ v)
theorem rnX8_unlike {E : Wd} {d : Nat} {a0 : Nat} {h : Hp} {Q : Int32 → Hp → Prop} (k : ∀ (K19 : Nat → Int32 → Int32 → Int32 → Hp → Prop),(∀ (a0 : Nat) (x1 : Int32) (x2 : Int32) (x3 : Int32) h, vcX8_unlike_19 E d K19 a0 x1 x2 x3 h Q → K19 a0 x1 x2 x3 h) → vcX8_unlike_0 E d K19 a0 h Q) : OkI E YX8_unlike (d + 1) [.ref a0] h Q :=
  zz_body2 (r := 4) mX8_unlike (zc_a zc_n) (Nat.le_of_ble_eq_true rfl) (fun X C => zsX8_unlike_0 C a0 h (k (zkX8_unlike_19 E X) (fun a0 x1 x2 x3 h v => zsX8_unlike_19 C a0 x1 x2 x3 h v)))
def vcX8_image_0 (E : Wd) (d : Nat) (K34 : Nat → Int32 → Hp → Prop) (a0 : Nat) (h : Hp) (Q : Int32 → Hp → Prop) : Prop :=
  okP h a0 8 30 ∧ mB 1 ∧ ∀ h1, h1 = pF h a0 30 (.int 1) → okI h1 a0 8 7 ∧ okP h1 a0 8 31 ∧ mB (fI h1 a0 7) ∧ ∀ h2, h2 = pF h1 a0 31 (.int (fI h1 a0 7)) → okA h2 a0 8 4 ∧ okA h2 a0 8 6 ∧ OkV E YX8_copy d [.ref (fA h2 a0 4), .ref (fA h2 a0 6)] h2 (fun h3 => okI h3 a0 8 23 ∧ okP h3 a0 8 24 ∧ ∀ h4, h4 = pF h3 a0 24 (.int (fI h3 a0 23)) → K34 a0 0 h4)
def vcX8_image_34 (E : Wd) (d : Nat) (K34 : Nat → Int32 → Hp → Prop) (a0 : Nat) (x1 : Int32) (h : Hp) (Q : Int32 → Hp → Prop) : Prop :=
  ((40 : Int32) < x1 → okI h a0 8 7 ∧ ((fI h a0 7) = (0 : Int32) → Q 0 h) ∧ (¬ (fI h a0 7) = (0 : Int32) → Q 1 h)) ∧ (¬ (40 : Int32) < x1 → okA h a0 8 26 ∧ okA h a0 8 25 ∧ okR E h (fA h a0 25) 0 x1 ∧ okR E h (fA h a0 26) 0 x1 ∧ ∀ h1, h1 = sA h (fA h a0 26) x1 (gA h (fA h a0 25) x1) → okA h1 a0 8 28 ∧ okA h1 a0 8 27 ∧ okR E h1 (fA h1 a0 27) 1 x1 ∧ okR E h1 (fA h1 a0 28) 1 x1 ∧ mB (gA h1 (fA h1 a0 27) x1) ∧ ∀ h2, h2 = sA h1 (fA h1 a0 28) x1 (gA h1 (fA h1 a0 27) x1) → K34 a0 (x1 + 1) h2)
def zkX8_image_34 (E : Wd) (X : Mx) : Nat → Int32 → Hp → Prop := fun a0 x1 h => GG E X 2 0 0 34 [some (.ref a0), some (.int x1)] [] h
set_option maxRecDepth 100000 in
set_option maxHeartbeats 4000000 in
theorem zsX8_image_0 {E : Wd} {X : Mx} {d : Nat} {Q : Int32 → Hp → Prop} (C : zz_C E X YX8_image (d + 1) 0 0 (fun r h' => ∃ x : Int32, r = some (.int x) ∧ Q x h')) (a0 : Nat) (h : Hp) (v : vcX8_image_0 E d (zkX8_image_34 E X) a0 h Q) : GG E X 2 0 0 0 [some (.ref a0), none] [] h := by
  refine zg_aload_n (q := 1) C dX8_image_0 rfl rfl ?_
  refine zg_iconst (v := 1) (q := 2) C dX8_image_1 (by decide) rfl ?_
  refine zg_put (j := 30) (q := 5) C bX8 (by decide) lkX8_290 dX8_image_2 rfl rfl v.1 (zn_b v.2.1) (zf_b v.2.1) ?_
  have v := v.2.2 _ rfl
  refine zg_aload_n (q := 6) C dX8_image_5 rfl rfl ?_
  refine zg_aload_n (q := 7) C dX8_image_6 rfl rfl ?_
  refine zg_get (j := 7) (q := 10) C bX8 (by decide) lkX8_146 dX8_image_7 rfl (okI.get v.1) ?_
  have v := v.2
  refine zg_put (j := 31) (q := 13) C bX8 (by decide) lkX8_293 dX8_image_10 rfl rfl v.1 (zn_b v.2.1) (zf_b v.2.1) ?_
  have v := v.2.2 _ rfl
  refine zg_aload_n (q := 14) C dX8_image_13 rfl rfl ?_
  refine zg_get (j := 4) (q := 17) C bX8 (by decide) lkX8_13 dX8_image_14 rfl (okA.get v.1) ?_
  have v := v.2
  refine zg_aload_n (q := 18) C dX8_image_17 rfl rfl ?_
  refine zg_get (j := 6) (q := 21) C bX8 (by decide) lkX8_19 dX8_image_18 rfl (okA.get v.1) ?_
  have v := v.2
  refine zg_cS2V (q := 24) C mX8_copy tX8_copy lmX8_142 rfl (Nat.le_of_ble_eq_true rfl) ⟨Nat.le_refl _, Nat.le_refl _⟩ dX8_image_21 rfl v (fun h3 v => ?_)
  refine zg_aload_n (q := 25) C dX8_image_24 rfl rfl ?_
  refine zg_aload_n (q := 26) C dX8_image_25 rfl rfl ?_
  refine zg_get (j := 23) (q := 29) C bX8 (by decide) lkX8_67 dX8_image_26 rfl (okI.get v.1) ?_
  have v := v.2
  refine zg_put (j := 24) (q := 32) C bX8 (by decide) lkX8_296 dX8_image_29 rfl rfl v.1 rfl rfl ?_
  have v := v.2 _ rfl
  refine zg_iconst (v := 0) (q := 33) C dX8_image_32 (by decide) rfl ?_
  refine zg_istore_n (q := 34) C dX8_image_33 (by decide) rfl ?_
  exact zg_mask [true, true] v
set_option maxRecDepth 100000 in
set_option maxHeartbeats 4000000 in
theorem zsX8_image_34 {E : Wd} {X : Mx} {d : Nat} {Q : Int32 → Hp → Prop} (C : zz_C E X YX8_image (d + 1) 0 0 (fun r h' => ∃ x : Int32, r = some (.int x) ∧ Q x h')) (a0 : Nat) (x1 : Int32) (h : Hp) (v : vcX8_image_34 E d (zkX8_image_34 E X) a0 x1 h Q) : GG E X 2 0 0 34 [some (.ref a0), some (.int x1)] [] h := by
  refine zg_iload_n (q := 35) C dX8_image_34 rfl rfl ?_
  refine zg_bipush (v := 40) (q := 37) C dX8_image_35 (by decide) rfl ?_
  refine zg_icmp_gt (t := 70) (q := 40) C dX8_image_37 (by decide) rfl (fun c => ?_) (fun c => ?_)
  · have v := v.1 c
    refine zg_aload_n (q := 71) C dX8_image_70 rfl rfl ?_
    refine zg_get (j := 7) (q := 74) C bX8 (by decide) lkX8_146 dX8_image_71 rfl (okI.get v.1) ?_
    have v := v.2
    refine zg_if_eq (t := 81) (q := 77) C dX8_image_74 (by decide) rfl (fun c => ?_) (fun c => ?_)
    · have v := v.1 c
      refine zg_iconst (v := 0) (q := 82) C dX8_image_81 (by decide) rfl ?_
      exact zg_iret C rfl dX8_image_82 ⟨Nat.le_refl _, Nat.le_refl _⟩ ⟨_, rfl, v⟩
    · have v := v.2 c
      refine zg_iconst (v := 1) (q := 78) C dX8_image_77 (by decide) rfl ?_
      refine zg_goto (t := 82) C dX8_image_78 (by decide) ?_
      exact zg_iret C rfl dX8_image_82 ⟨Nat.le_refl _, Nat.le_refl _⟩ ⟨_, rfl, v⟩
  · have v := v.2 c
    refine zg_aload_n (q := 41) C dX8_image_40 rfl rfl ?_
    refine zg_get (j := 26) (q := 44) C bX8 (by decide) lkX8_74 dX8_image_41 rfl (okA.get v.1) ?_
    have v := v.2
    refine zg_iload_n (q := 45) C dX8_image_44 rfl rfl ?_
    refine zg_aload_n (q := 46) C dX8_image_45 rfl rfl ?_
    refine zg_get (j := 25) (q := 49) C bX8 (by decide) lkX8_71 dX8_image_46 rfl (okA.get v.1) ?_
    have v := v.2
    refine zg_iload_n (q := 50) C dX8_image_49 rfl rfl ?_
    refine zg_iald (q := 51) C dX8_image_50 rfl v.1 ?_
    have v := v.2
    refine zg_iast (q := 52) C dX8_image_51 rfl v.1 ?_
    have v := v.2 _ rfl
    refine zg_aload_n (q := 53) C dX8_image_52 rfl rfl ?_
    refine zg_get (j := 28) (q := 56) C bX8 (by decide) lkX8_80 dX8_image_53 rfl (okA.get v.1) ?_
    have v := v.2
    refine zg_iload_n (q := 57) C dX8_image_56 rfl rfl ?_
    refine zg_aload_n (q := 58) C dX8_image_57 rfl rfl ?_
    refine zg_get (j := 27) (q := 61) C bX8 (by decide) lkX8_77 dX8_image_58 rfl (okA.get v.1) ?_
    have v := v.2
    refine zg_iload_n (q := 62) C dX8_image_61 rfl rfl ?_
    refine zg_zald (q := 63) C dX8_image_62 rfl v.1 ?_
    have v := v.2
    refine zg_zast (q := 64) C dX8_image_63 rfl v.1 v.2.1 ?_
    have v := v.2.2 _ rfl
    refine zg_iinc (v := 1) (q := 67) C dX8_image_64 rfl (by decide) (by decide) rfl ?_
    refine zg_goto (t := 34) C dX8_image_67 (by decide) ?_
    exact zg_mask [true, true] v
theorem rnX8_image {E : Wd} {d : Nat} {a0 : Nat} {h : Hp} {Q : Int32 → Hp → Prop} (k : ∀ (K34 : Nat → Int32 → Hp → Prop),(∀ (a0 : Nat) (x1 : Int32) h, vcX8_image_34 E d K34 a0 x1 h Q → K34 a0 x1 h) → vcX8_image_0 E d K34 a0 h Q) : OkI E YX8_image (d + 1) [.ref a0] h Q :=
  zz_body2 (r := 1) mX8_image (zc_a zc_n) (Nat.le_of_ble_eq_true rfl) (fun X C => zsX8_image_0 C a0 h (k (zkX8_image_34 E X) (fun a0 x1 h v => zsX8_image_34 C a0 x1 h v)))
def vcX8_undo_40 (E : Wd) (d : Nat) (K50 : Nat → Int32 → Hp → Prop) (a0 : Nat) (h : Hp) (Q : Int32 → Hp → Prop) : Prop :=
  okI h a0 8 24 ∧ okP h a0 8 23 ∧ ∀ h1, h1 = pF h a0 23 (.int (fI h a0 24)) → K50 a0 0 h1
def vcX8_undo_0 (E : Wd) (d : Nat) (K50 : Nat → Int32 → Hp → Prop) (a0 : Nat) (h : Hp) (Q : Int32 → Hp → Prop) : Prop :=
  okI h a0 8 30 ∧ (¬ (fI h a0 30) = (0 : Int32) → okI h a0 8 31 ∧ okP h a0 8 7 ∧ mB (fI h a0 31) ∧ ∀ h1, h1 = pF h a0 7 (.int (fI h a0 31)) → okA h1 a0 8 6 ∧ okA h1 a0 8 4 ∧ OkV E YX8_copy d [.ref (fA h1 a0 6), .ref (fA h1 a0 4)] h1 (fun h2 => okI h2 a0 8 7 ∧ ((fI h2 a0 7) = (0 : Int32) → vcX8_undo_40 E d K50 a0 h2 Q) ∧ (¬ (fI h2 a0 7) = (0 : Int32) → isO h2 a0 8 ∧ OkV E YX8_build d [.ref a0] h2 (fun h3 => vcX8_undo_40 E d K50 a0 h3 Q)))) ∧ ((fI h a0 30) = (0 : Int32) → Q ((-3)) h)
def vcX8_undo_50 (E : Wd) (d : Nat) (K50 : Nat → Int32 → Hp → Prop) (a0 : Nat) (x1 : Int32) (h : Hp) (Q : Int32 → Hp → Prop) : Prop :=
  ((40 : Int32) < x1 → okI h a0 8 7 ∧ ((fI h a0 7) = (0 : Int32) → Q 0 h) ∧ (¬ (fI h a0 7) = (0 : Int32) → Q 1 h)) ∧ (¬ (40 : Int32) < x1 → okA h a0 8 25 ∧ okA h a0 8 26 ∧ okR E h (fA h a0 26) 0 x1 ∧ okR E h (fA h a0 25) 0 x1 ∧ ∀ h1, h1 = sA h (fA h a0 25) x1 (gA h (fA h a0 26) x1) → okA h1 a0 8 27 ∧ okA h1 a0 8 28 ∧ okR E h1 (fA h1 a0 28) 1 x1 ∧ okR E h1 (fA h1 a0 27) 1 x1 ∧ mB (gA h1 (fA h1 a0 28) x1) ∧ ∀ h2, h2 = sA h1 (fA h1 a0 27) x1 (gA h1 (fA h1 a0 28) x1) → K50 a0 (x1 + 1) h2)
def zkX8_undo_50 (E : Wd) (X : Mx) : Nat → Int32 → Hp → Prop := fun a0 x1 h => GG E X 2 0 0 50 [some (.ref a0), some (.int x1)] [] h
set_option maxRecDepth 100000 in
set_option maxHeartbeats 4000000 in
theorem zsX8_undo_40 {E : Wd} {X : Mx} {d : Nat} {Q : Int32 → Hp → Prop} (C : zz_C E X YX8_undo (d + 1) 0 0 (fun r h' => ∃ x : Int32, r = some (.int x) ∧ Q x h')) (a0 : Nat) (h : Hp) (v : vcX8_undo_40 E d (zkX8_undo_50 E X) a0 h Q) : GG E X 2 0 0 40 [some (.ref a0), none] [] h := by
  refine zg_aload_n (q := 41) C dX8_undo_40 rfl rfl ?_
  refine zg_aload_n (q := 42) C dX8_undo_41 rfl rfl ?_
  refine zg_get (j := 24) (q := 45) C bX8 (by decide) lkX8_296 dX8_undo_42 rfl (okI.get v.1) ?_
  have v := v.2
  refine zg_put (j := 23) (q := 48) C bX8 (by decide) lkX8_67 dX8_undo_45 rfl rfl v.1 rfl rfl ?_
  have v := v.2 _ rfl
  refine zg_iconst (v := 0) (q := 49) C dX8_undo_48 (by decide) rfl ?_
  refine zg_istore_n (q := 50) C dX8_undo_49 (by decide) rfl ?_
  exact zg_mask [true, true] v
set_option maxRecDepth 100000 in
set_option maxHeartbeats 4000000 in
theorem zsX8_undo_0 {E : Wd} {X : Mx} {d : Nat} {Q : Int32 → Hp → Prop} (C : zz_C E X YX8_undo (d + 1) 0 0 (fun r h' => ∃ x : Int32, r = some (.int x) ∧ Q x h')) (a0 : Nat) (h : Hp) (v : vcX8_undo_0 E d (zkX8_undo_50 E X) a0 h Q) : GG E X 2 0 0 0 [some (.ref a0), none] [] h := by
  refine zg_aload_n (q := 1) C dX8_undo_0 rfl rfl ?_
  refine zg_get (j := 30) (q := 4) C bX8 (by decide) lkX8_290 dX8_undo_1 rfl (okI.get v.1) ?_
  have v := v.2
  refine zg_if_ne (t := 10) (q := 7) C dX8_undo_4 (by decide) rfl (fun c => ?_) (fun c => ?_)
  · have v := v.1 c
    refine zg_aload_n (q := 11) C dX8_undo_10 rfl rfl ?_
    refine zg_aload_n (q := 12) C dX8_undo_11 rfl rfl ?_
    refine zg_get (j := 31) (q := 15) C bX8 (by decide) lkX8_293 dX8_undo_12 rfl (okI.get v.1) ?_
    have v := v.2
    refine zg_put (j := 7) (q := 18) C bX8 (by decide) lkX8_146 dX8_undo_15 rfl rfl v.1 (zn_b v.2.1) (zf_b v.2.1) ?_
    have v := v.2.2 _ rfl
    refine zg_aload_n (q := 19) C dX8_undo_18 rfl rfl ?_
    refine zg_get (j := 6) (q := 22) C bX8 (by decide) lkX8_19 dX8_undo_19 rfl (okA.get v.1) ?_
    have v := v.2
    refine zg_aload_n (q := 23) C dX8_undo_22 rfl rfl ?_
    refine zg_get (j := 4) (q := 26) C bX8 (by decide) lkX8_13 dX8_undo_23 rfl (okA.get v.1) ?_
    have v := v.2
    refine zg_cS2V (q := 29) C mX8_copy tX8_copy lmX8_142 rfl (Nat.le_of_ble_eq_true rfl) ⟨Nat.le_refl _, Nat.le_refl _⟩ dX8_undo_26 rfl v (fun h2 v => ?_)
    refine zg_aload_n (q := 30) C dX8_undo_29 rfl rfl ?_
    refine zg_get (j := 7) (q := 33) C bX8 (by decide) lkX8_146 dX8_undo_30 rfl (okI.get v.1) ?_
    have v := v.2
    refine zg_if_eq (t := 40) (q := 36) C dX8_undo_33 (by decide) rfl (fun c => ?_) (fun c => ?_)
    · have v := v.1 c
      exact zg_mask [true, false] (zsX8_undo_40 C _ _ v)
    · have v := v.2 c
      refine zg_aload_n (q := 37) C dX8_undo_36 rfl rfl ?_
      refine zg_cV0V (q := 40) C mX8_build vX8_build lmX8_149 rfl (bX8).1 v.1 (Nat.le_of_ble_eq_true rfl) ⟨Nat.le_refl _, Nat.le_refl _⟩ dX8_undo_37 rfl v.2 (fun h3 v => ?_)
      exact zg_mask [true, false] (zsX8_undo_40 C _ _ v)
  · have v := v.2 c
    refine zg_bipush (v := (-3)) (q := 9) C dX8_undo_7 (by decide) rfl ?_
    exact zg_iret C rfl dX8_undo_9 ⟨Nat.le_refl _, Nat.le_refl _⟩ ⟨_, rfl, v⟩
set_option maxRecDepth 100000 in
set_option maxHeartbeats 4000000 in
theorem zsX8_undo_50 {E : Wd} {X : Mx} {d : Nat} {Q : Int32 → Hp → Prop} (C : zz_C E X YX8_undo (d + 1) 0 0 (fun r h' => ∃ x : Int32, r = some (.int x) ∧ Q x h')) (a0 : Nat) (x1 : Int32) (h : Hp) (v : vcX8_undo_50 E d (zkX8_undo_50 E X) a0 x1 h Q) : GG E X 2 0 0 50 [some (.ref a0), some (.int x1)] [] h := by
  refine zg_iload_n (q := 51) C dX8_undo_50 rfl rfl ?_
  refine zg_bipush (v := 40) (q := 53) C dX8_undo_51 (by decide) rfl ?_
  refine zg_icmp_gt (t := 86) (q := 56) C dX8_undo_53 (by decide) rfl (fun c => ?_) (fun c => ?_)
  · have v := v.1 c
    refine zg_aload_n (q := 87) C dX8_undo_86 rfl rfl ?_
    refine zg_get (j := 7) (q := 90) C bX8 (by decide) lkX8_146 dX8_undo_87 rfl (okI.get v.1) ?_
    have v := v.2
    refine zg_if_eq (t := 97) (q := 93) C dX8_undo_90 (by decide) rfl (fun c => ?_) (fun c => ?_)
    · have v := v.1 c
      refine zg_iconst (v := 0) (q := 98) C dX8_undo_97 (by decide) rfl ?_
      exact zg_iret C rfl dX8_undo_98 ⟨Nat.le_refl _, Nat.le_refl _⟩ ⟨_, rfl, v⟩
    · have v := v.2 c
      refine zg_iconst (v := 1) (q := 94) C dX8_undo_93 (by decide) rfl ?_
      refine zg_goto (t := 98) C dX8_undo_94 (by decide) ?_
      exact zg_iret C rfl dX8_undo_98 ⟨Nat.le_refl _, Nat.le_refl _⟩ ⟨_, rfl, v⟩
  · have v := v.2 c
    refine zg_aload_n (q := 57) C dX8_undo_56 rfl rfl ?_
    refine zg_get (j := 25) (q := 60) C bX8 (by decide) lkX8_71 dX8_undo_57 rfl (okA.get v.1) ?_
    have v := v.2
    refine zg_iload_n (q := 61) C dX8_undo_60 rfl rfl ?_
    refine zg_aload_n (q := 62) C dX8_undo_61 rfl rfl ?_
    refine zg_get (j := 26) (q := 65) C bX8 (by decide) lkX8_74 dX8_undo_62 rfl (okA.get v.1) ?_
    have v := v.2
    refine zg_iload_n (q := 66) C dX8_undo_65 rfl rfl ?_
    refine zg_iald (q := 67) C dX8_undo_66 rfl v.1 ?_
    have v := v.2
    refine zg_iast (q := 68) C dX8_undo_67 rfl v.1 ?_
    have v := v.2 _ rfl
    refine zg_aload_n (q := 69) C dX8_undo_68 rfl rfl ?_
    refine zg_get (j := 27) (q := 72) C bX8 (by decide) lkX8_77 dX8_undo_69 rfl (okA.get v.1) ?_
    have v := v.2
    refine zg_iload_n (q := 73) C dX8_undo_72 rfl rfl ?_
    refine zg_aload_n (q := 74) C dX8_undo_73 rfl rfl ?_
    refine zg_get (j := 28) (q := 77) C bX8 (by decide) lkX8_80 dX8_undo_74 rfl (okA.get v.1) ?_
    have v := v.2
    refine zg_iload_n (q := 78) C dX8_undo_77 rfl rfl ?_
    refine zg_zald (q := 79) C dX8_undo_78 rfl v.1 ?_
    have v := v.2
    refine zg_zast (q := 80) C dX8_undo_79 rfl v.1 v.2.1 ?_
    have v := v.2.2 _ rfl
    refine zg_iinc (v := 1) (q := 83) C dX8_undo_80 rfl (by decide) (by decide) rfl ?_
    refine zg_goto (t := 50) C dX8_undo_83 (by decide) ?_
    exact zg_mask [true, true] v
theorem rnX8_undo {E : Wd} {d : Nat} {a0 : Nat} {h : Hp} {Q : Int32 → Hp → Prop} (k : ∀ (K50 : Nat → Int32 → Hp → Prop),(∀ (a0 : Nat) (x1 : Int32) h, vcX8_undo_50 E d K50 a0 x1 h Q → K50 a0 x1 h) → vcX8_undo_0 E d K50 a0 h Q) : OkI E YX8_undo (d + 1) [.ref a0] h Q :=
  zz_body2 (r := 1) mX8_undo (zc_a zc_n) (Nat.le_of_ble_eq_true rfl) (fun X C => zsX8_undo_0 C a0 h (k (zkX8_undo_50 E X) (fun a0 x1 h v => zsX8_undo_50 C a0 x1 h v)))
def vcX8_countDifferent_0 (E : Wd) (d : Nat) (K4 : Nat → Int32 → Int32 → Hp → Prop) (K17 : Nat → Int32 → Int32 → Int32 → Int32 → Hp → Prop) (a0 : Nat) (h : Hp) (Q : Int32 → Hp → Prop) : Prop :=
  K4 a0 0 0 h
def vcX8_countDifferent_4 (E : Wd) (d : Nat) (K4 : Nat → Int32 → Int32 → Hp → Prop) (K17 : Nat → Int32 → Int32 → Int32 → Int32 → Hp → Prop) (a0 : Nat) (x1 : Int32) (x2 : Int32) (h : Hp) (Q : Int32 → Hp → Prop) : Prop :=
  okI h a0 8 23 ∧ ((fI h a0 23) < x2 → Q x1 h) ∧ (¬ (fI h a0 23) < x2 → K17 a0 x1 x2 1 0 h)
def vcX8_countDifferent_17 (E : Wd) (d : Nat) (K4 : Nat → Int32 → Int32 → Hp → Prop) (K17 : Nat → Int32 → Int32 → Int32 → Int32 → Hp → Prop) (a0 : Nat) (x1 : Int32) (x2 : Int32) (x3 : Int32) (x4 : Int32) (h : Hp) (Q : Int32 → Hp → Prop) : Prop :=
  (x2 ≤ x4 → (x3 = (0 : Int32) → K4 a0 (x1 + (0 : Int32)) (x2 + 1) h) ∧ (¬ x3 = (0 : Int32) → K4 a0 (x1 + (1 : Int32)) (x2 + 1) h)) ∧ (¬ x2 ≤ x4 → okA h a0 8 25 ∧ okR E h (fA h a0 25) 0 x4 ∧ okA h a0 8 25 ∧ okR E h (fA h a0 25) 0 x2 ∧ ((gA h (fA h a0 25) x4) = (gA h (fA h a0 25) x2) → K17 a0 x1 x2 (x3 &&& (0 : Int32)) (x4 + 1) h) ∧ (¬ (gA h (fA h a0 25) x4) = (gA h (fA h a0 25) x2) → K17 a0 x1 x2 (x3 &&& (1 : Int32)) (x4 + 1) h))
def zkX8_countDifferent_4 (E : Wd) (X : Mx) : Nat → Int32 → Int32 → Hp → Prop := fun a0 x1 x2 h => GG E X 5 0 0 4 [some (.ref a0), some (.int x1), some (.int x2), none, none] [] h
def zkX8_countDifferent_17 (E : Wd) (X : Mx) : Nat → Int32 → Int32 → Int32 → Int32 → Hp → Prop := fun a0 x1 x2 x3 x4 h => GG E X 5 0 0 17 [some (.ref a0), some (.int x1), some (.int x2), some (.int x3), some (.int x4)] [] h
set_option maxRecDepth 100000 in
set_option maxHeartbeats 4000000 in
theorem zsX8_countDifferent_0 {E : Wd} {X : Mx} {d : Nat} {Q : Int32 → Hp → Prop} (C : zz_C E X YX8_countDifferent d 0 0 (fun r h' => ∃ x : Int32, r = some (.int x) ∧ Q x h')) (a0 : Nat) (h : Hp) (v : vcX8_countDifferent_0 E d (zkX8_countDifferent_4 E X) (zkX8_countDifferent_17 E X) a0 h Q) : GG E X 5 0 0 0 [some (.ref a0), none, none, none, none] [] h := by
  refine zg_iconst (v := 0) (q := 1) C dX8_countDifferent_0 (by decide) rfl ?_
  refine zg_istore_n (q := 2) C dX8_countDifferent_1 (by decide) rfl ?_
  refine zg_iconst (v := 0) (q := 3) C dX8_countDifferent_2 (by decide) rfl ?_
  refine zg_istore_n (q := 4) C dX8_countDifferent_3 (by decide) rfl ?_
  exact zg_mask [true, true, true, false, false] v
set_option maxRecDepth 100000 in
set_option maxHeartbeats 4000000 in
theorem zsX8_countDifferent_4 {E : Wd} {X : Mx} {d : Nat} {Q : Int32 → Hp → Prop} (C : zz_C E X YX8_countDifferent d 0 0 (fun r h' => ∃ x : Int32, r = some (.int x) ∧ Q x h')) (a0 : Nat) (x1 : Int32) (x2 : Int32) (h : Hp) (v : vcX8_countDifferent_4 E d (zkX8_countDifferent_4 E X) (zkX8_countDifferent_17 E X) a0 x1 x2 h Q) : GG E X 5 0 0 4 [some (.ref a0), some (.int x1), some (.int x2), none, none] [] h := by
  refine zg_iload_n (q := 5) C dX8_countDifferent_4 rfl rfl ?_
  refine zg_aload_n (q := 6) C dX8_countDifferent_5 rfl rfl ?_
  refine zg_get (j := 23) (q := 9) C bX8 (by decide) lkX8_67 dX8_countDifferent_6 rfl (okI.get v.1) ?_
  have v := v.2
  refine zg_icmp_gt (t := 71) (q := 12) C dX8_countDifferent_9 (by decide) rfl (fun c => ?_) (fun c => ?_)
  · have v := v.1 c
    refine zg_iload_n (q := 72) C dX8_countDifferent_71 rfl rfl ?_
    exact zg_iret C rfl dX8_countDifferent_72 ⟨Nat.le_refl _, Nat.le_refl _⟩ ⟨_, rfl, v⟩
  · have v := v.2 c
    refine zg_iconst (v := 1) (q := 13) C dX8_countDifferent_12 (by decide) rfl ?_
    refine zg_istore_n (q := 14) C dX8_countDifferent_13 (by decide) rfl ?_
    refine zg_iconst (v := 0) (q := 15) C dX8_countDifferent_14 (by decide) rfl ?_
    refine zg_istore (q := 17) C dX8_countDifferent_15 (by decide) rfl ?_
    exact zg_mask [true, true, true, true, true] v
set_option maxRecDepth 100000 in
set_option maxHeartbeats 4000000 in
theorem zsX8_countDifferent_17 {E : Wd} {X : Mx} {d : Nat} {Q : Int32 → Hp → Prop} (C : zz_C E X YX8_countDifferent d 0 0 (fun r h' => ∃ x : Int32, r = some (.int x) ∧ Q x h')) (a0 : Nat) (x1 : Int32) (x2 : Int32) (x3 : Int32) (x4 : Int32) (h : Hp) (v : vcX8_countDifferent_17 E d (zkX8_countDifferent_4 E X) (zkX8_countDifferent_17 E X) a0 x1 x2 x3 x4 h Q) : GG E X 5 0 0 17 [some (.ref a0), some (.int x1), some (.int x2), some (.int x3), some (.int x4)] [] h := by
  refine zg_iload (q := 19) C dX8_countDifferent_17 rfl rfl ?_
  refine zg_iload_n (q := 20) C dX8_countDifferent_19 rfl rfl ?_
  refine zg_icmp_ge (t := 53) (q := 23) C dX8_countDifferent_20 (by decide) rfl (fun c => ?_) (fun c => ?_)
  · have v := v.1 c
    refine zg_iload_n (q := 54) C dX8_countDifferent_53 rfl rfl ?_
    refine zg_iload_n (q := 55) C dX8_countDifferent_54 rfl rfl ?_
    refine zg_if_eq (t := 62) (q := 58) C dX8_countDifferent_55 (by decide) rfl (fun c => ?_) (fun c => ?_)
    · have v := v.1 c
      refine zg_iconst (v := 0) (q := 63) C dX8_countDifferent_62 (by decide) rfl ?_
      refine zg_iadd (q := 64) C dX8_countDifferent_63 rfl ?_
      refine zg_istore_n (q := 65) C dX8_countDifferent_64 (by decide) rfl ?_
      refine zg_iinc (v := 1) (q := 68) C dX8_countDifferent_65 rfl (by decide) (by decide) rfl ?_
      refine zg_goto (t := 4) C dX8_countDifferent_68 (by decide) ?_
      exact zg_mask [true, true, true, false, false] v
    · have v := v.2 c
      refine zg_iconst (v := 1) (q := 59) C dX8_countDifferent_58 (by decide) rfl ?_
      refine zg_goto (t := 63) C dX8_countDifferent_59 (by decide) ?_
      refine zg_iadd (q := 64) C dX8_countDifferent_63 rfl ?_
      refine zg_istore_n (q := 65) C dX8_countDifferent_64 (by decide) rfl ?_
      refine zg_iinc (v := 1) (q := 68) C dX8_countDifferent_65 rfl (by decide) (by decide) rfl ?_
      refine zg_goto (t := 4) C dX8_countDifferent_68 (by decide) ?_
      exact zg_mask [true, true, true, false, false] v
  · have v := v.2 c
    refine zg_iload_n (q := 24) C dX8_countDifferent_23 rfl rfl ?_
    refine zg_aload_n (q := 25) C dX8_countDifferent_24 rfl rfl ?_
    refine zg_get (j := 25) (q := 28) C bX8 (by decide) lkX8_71 dX8_countDifferent_25 rfl (okA.get v.1) ?_
    have v := v.2
    refine zg_iload (q := 30) C dX8_countDifferent_28 rfl rfl ?_
    refine zg_iald (q := 31) C dX8_countDifferent_30 rfl v.1 ?_
    have v := v.2
    refine zg_aload_n (q := 32) C dX8_countDifferent_31 rfl rfl ?_
    refine zg_get (j := 25) (q := 35) C bX8 (by decide) lkX8_71 dX8_countDifferent_32 rfl (okA.get v.1) ?_
    have v := v.2
    refine zg_iload_n (q := 36) C dX8_countDifferent_35 rfl rfl ?_
    refine zg_iald (q := 37) C dX8_countDifferent_36 rfl v.1 ?_
    have v := v.2
    refine zg_icmp_eq (t := 44) (q := 40) C dX8_countDifferent_37 (by decide) rfl (fun c => ?_) (fun c => ?_)
    · have v := v.1 c
      refine zg_iconst (v := 0) (q := 45) C dX8_countDifferent_44 (by decide) rfl ?_
      refine zg_iand (q := 46) C dX8_countDifferent_45 rfl ?_
      refine zg_istore_n (q := 47) C dX8_countDifferent_46 (by decide) rfl ?_
      refine zg_iinc (v := 1) (q := 50) C dX8_countDifferent_47 rfl (by decide) (by decide) rfl ?_
      refine zg_goto (t := 17) C dX8_countDifferent_50 (by decide) ?_
      exact zg_mask [true, true, true, true, true] v
    · have v := v.2 c
      refine zg_iconst (v := 1) (q := 41) C dX8_countDifferent_40 (by decide) rfl ?_
      refine zg_goto (t := 45) C dX8_countDifferent_41 (by decide) ?_
      refine zg_iand (q := 46) C dX8_countDifferent_45 rfl ?_
      refine zg_istore_n (q := 47) C dX8_countDifferent_46 (by decide) rfl ?_
      refine zg_iinc (v := 1) (q := 50) C dX8_countDifferent_47 rfl (by decide) (by decide) rfl ?_
      refine zg_goto (t := 17) C dX8_countDifferent_50 (by decide) ?_
      exact zg_mask [true, true, true, true, true] v
theorem rnX8_countDifferent {E : Wd} {d : Nat} {a0 : Nat} {h : Hp} {Q : Int32 → Hp → Prop} (k : ∀ (K4 : Nat → Int32 → Int32 → Hp → Prop) (K17 : Nat → Int32 → Int32 → Int32 → Int32 → Hp → Prop),(∀ (a0 : Nat) (x1 : Int32) (x2 : Int32) h, vcX8_countDifferent_4 E d K4 K17 a0 x1 x2 h Q → K4 a0 x1 x2 h) → (∀ (a0 : Nat) (x1 : Int32) (x2 : Int32) (x3 : Int32) (x4 : Int32) h, vcX8_countDifferent_17 E d K4 K17 a0 x1 x2 x3 x4 h Q → K17 a0 x1 x2 x3 x4 h) → vcX8_countDifferent_0 E d K4 K17 a0 h Q) : OkI E YX8_countDifferent d [.ref a0] h Q :=
  zz_body2 (r := 4) mX8_countDifferent (zc_a zc_n) (Nat.le_of_ble_eq_true rfl) (fun X C => zsX8_countDifferent_0 C a0 h (k (zkX8_countDifferent_4 E X) (zkX8_countDifferent_17 E X) (fun a0 x1 x2 h v => zsX8_countDifferent_4 C a0 x1 x2 h v) (fun a0 x1 x2 x3 x4 h v => zsX8_countDifferent_17 C a0 x1 x2 x3 x4 h v)))
def vcX8_countSinceCapture_0 (E : Wd) (d : Nat) (K2 : Nat → Int32 → Hp → Prop) (a0 : Nat) (h : Hp) (Q : Int32 → Hp → Prop) : Prop :=
  K2 a0 0 h
def vcX8_countSinceCapture_2 (E : Wd) (d : Nat) (K2 : Nat → Int32 → Hp → Prop) (a0 : Nat) (x1 : Int32) (h : Hp) (Q : Int32 → Hp → Prop) : Prop :=
  okI h a0 8 23 ∧ ((fI h a0 23) ≤ x1 → Q x1 h) ∧ (¬ (fI h a0 23) ≤ x1 → okA h a0 8 27 ∧ okI h a0 8 23 ∧ okR E h (fA h a0 27) 1 ((fI h a0 23) - x1) ∧ (¬ (gA h (fA h a0 27) ((fI h a0 23) - x1)) = (0 : Int32) → Q x1 h) ∧ ((gA h (fA h a0 27) ((fI h a0 23) - x1)) = (0 : Int32) → K2 a0 (x1 + 1) h))
def zkX8_countSinceCapture_2 (E : Wd) (X : Mx) : Nat → Int32 → Hp → Prop := fun a0 x1 h => GG E X 2 0 0 2 [some (.ref a0), some (.int x1)] [] h
set_option maxRecDepth 100000 in
set_option maxHeartbeats 4000000 in
theorem zsX8_countSinceCapture_0 {E : Wd} {X : Mx} {d : Nat} {Q : Int32 → Hp → Prop} (C : zz_C E X YX8_countSinceCapture d 0 0 (fun r h' => ∃ x : Int32, r = some (.int x) ∧ Q x h')) (a0 : Nat) (h : Hp) (v : vcX8_countSinceCapture_0 E d (zkX8_countSinceCapture_2 E X) a0 h Q) : GG E X 2 0 0 0 [some (.ref a0), none] [] h := by
  refine zg_iconst (v := 0) (q := 1) C dX8_countSinceCapture_0 (by decide) rfl ?_
  refine zg_istore_n (q := 2) C dX8_countSinceCapture_1 (by decide) rfl ?_
  exact zg_mask [true, true] v
set_option maxRecDepth 100000 in
set_option maxHeartbeats 4000000 in
theorem zsX8_countSinceCapture_2 {E : Wd} {X : Mx} {d : Nat} {Q : Int32 → Hp → Prop} (C : zz_C E X YX8_countSinceCapture d 0 0 (fun r h' => ∃ x : Int32, r = some (.int x) ∧ Q x h')) (a0 : Nat) (x1 : Int32) (h : Hp) (v : vcX8_countSinceCapture_2 E d (zkX8_countSinceCapture_2 E X) a0 x1 h Q) : GG E X 2 0 0 2 [some (.ref a0), some (.int x1)] [] h := by
  refine zg_iload_n (q := 3) C dX8_countSinceCapture_2 rfl rfl ?_
  refine zg_aload_n (q := 4) C dX8_countSinceCapture_3 rfl rfl ?_
  refine zg_get (j := 23) (q := 7) C bX8 (by decide) lkX8_67 dX8_countSinceCapture_4 rfl (okI.get v.1) ?_
  have v := v.2
  refine zg_icmp_ge (t := 30) (q := 10) C dX8_countSinceCapture_7 (by decide) rfl (fun c => ?_) (fun c => ?_)
  · have v := v.1 c
    refine zg_iload_n (q := 31) C dX8_countSinceCapture_30 rfl rfl ?_
    exact zg_iret C rfl dX8_countSinceCapture_31 ⟨Nat.le_refl _, Nat.le_refl _⟩ ⟨_, rfl, v⟩
  · have v := v.2 c
    refine zg_aload_n (q := 11) C dX8_countSinceCapture_10 rfl rfl ?_
    refine zg_get (j := 27) (q := 14) C bX8 (by decide) lkX8_77 dX8_countSinceCapture_11 rfl (okA.get v.1) ?_
    have v := v.2
    refine zg_aload_n (q := 15) C dX8_countSinceCapture_14 rfl rfl ?_
    refine zg_get (j := 23) (q := 18) C bX8 (by decide) lkX8_67 dX8_countSinceCapture_15 rfl (okI.get v.1) ?_
    have v := v.2
    refine zg_iload_n (q := 19) C dX8_countSinceCapture_18 rfl rfl ?_
    refine zg_isub (q := 20) C dX8_countSinceCapture_19 rfl ?_
    refine zg_zald (q := 21) C dX8_countSinceCapture_20 rfl v.1 ?_
    have v := v.2
    refine zg_if_ne (t := 30) (q := 24) C dX8_countSinceCapture_21 (by decide) rfl (fun c => ?_) (fun c => ?_)
    · have v := v.1 c
      refine zg_iload_n (q := 31) C dX8_countSinceCapture_30 rfl rfl ?_
      exact zg_iret C rfl dX8_countSinceCapture_31 ⟨Nat.le_refl _, Nat.le_refl _⟩ ⟨_, rfl, v⟩
    · have v := v.2 c
      refine zg_iinc (v := 1) (q := 27) C dX8_countSinceCapture_24 rfl (by decide) (by decide) rfl ?_
      refine zg_goto (t := 2) C dX8_countSinceCapture_27 (by decide) ?_
      exact zg_mask [true, true] v
theorem rnX8_countSinceCapture {E : Wd} {d : Nat} {a0 : Nat} {h : Hp} {Q : Int32 → Hp → Prop} (k : ∀ (K2 : Nat → Int32 → Hp → Prop),(∀ (a0 : Nat) (x1 : Int32) h, vcX8_countSinceCapture_2 E d K2 a0 x1 h Q → K2 a0 x1 h) → vcX8_countSinceCapture_0 E d K2 a0 h Q) : OkI E YX8_countSinceCapture d [.ref a0] h Q :=
  zz_body2 (r := 1) mX8_countSinceCapture (zc_a zc_n) (Nat.le_of_ble_eq_true rfl) (fun X C => zsX8_countSinceCapture_0 C a0 h (k (zkX8_countSinceCapture_2 E X) (fun a0 x1 h v => zsX8_countSinceCapture_2 C a0 x1 h v)))
def vcX8_count_0 (E : Wd) (d : Nat) (a0 : Nat) (x1 : Int32) (h : Hp) (Q : Int32 → Hp → Prop) : Prop :=
  (x1 = (0 : Int32) → isO h a0 8 ∧ OkI E YX8_isPlaying d [.ref a0] h (fun r2 h1 => (r2 = (0 : Int32) → Q 0 h1) ∧ (¬ r2 = (0 : Int32) → okI h1 a0 8 23 ∧ Q (fI h1 a0 23) h1))) ∧ (¬ x1 = (0 : Int32) → (x1 = (1 : Int32) → okI h a0 8 1 ∧ Q (fI h a0 1) h) ∧ (¬ x1 = (1 : Int32) → (x1 = (2 : Int32) → isO h a0 8 ∧ OkI E YX8_isPlaying d [.ref a0] h (fun r4 h3 => (r4 = (0 : Int32) → Q 0 h3) ∧ (¬ r4 = (0 : Int32) → isO h3 a0 8 ∧ OkI E YX8_occurrences d [.ref a0] h3 (fun r6 h5 => Q r6 h5)))) ∧ (¬ x1 = (2 : Int32) → (x1 = (3 : Int32) → isO h a0 8 ∧ OkI E YX8_isPlaying d [.ref a0] h (fun r8 h7 => (r8 = (0 : Int32) → Q 0 h7) ∧ (¬ r8 = (0 : Int32) → isO h7 a0 8 ∧ OkI E YX8_countDifferent d [.ref a0] h7 (fun r10 h9 => Q r10 h9)))) ∧ (¬ x1 = (3 : Int32) → (x1 = (4 : Int32) → isO h a0 8 ∧ OkI E YX8_isPlaying d [.ref a0] h (fun r12 h11 => (r12 = (0 : Int32) → Q 0 h11) ∧ (¬ r12 = (0 : Int32) → isO h11 a0 8 ∧ OkI E YX8_countSinceCapture d [.ref a0] h11 (fun r14 h13 => Q r14 h13)))) ∧ (¬ x1 = (4 : Int32) → Q ((-1)) h)))))
set_option maxRecDepth 100000 in
set_option maxHeartbeats 4000000 in
theorem zsX8_count_0 {E : Wd} {X : Mx} {d : Nat} {Q : Int32 → Hp → Prop} (C : zz_C E X YX8_count (d + 1) 0 0 (fun r h' => ∃ x : Int32, r = some (.int x) ∧ Q x h')) (a0 : Nat) (x1 : Int32) (h : Hp) (v : vcX8_count_0 E d a0 x1 h Q) : GG E X 2 0 0 0 [some (.ref a0), some (.int x1)] [] h := by
  refine zg_iload_n (q := 1) C dX8_count_0 rfl rfl ?_
  by_cases c0 : x1 = (0 : Int32)
  · have v := v.1 c0
    refine zg_tabC (t := 36) (off := 35) C dX8_count_1 c0 (by decide) (by decide) (by decide) (by decide) ?_
    refine zg_aload_n (q := 37) C dX8_count_36 rfl rfl ?_
    refine zg_cV0I (q := 40) C mX8_isPlaying vX8_isPlaying lmX8_257 rfl (bX8).1 v.1 (Nat.le_of_ble_eq_true rfl) ⟨Nat.le_refl _, Nat.le_refl _⟩ dX8_count_37 rfl v.2 (fun r2 h1 v => ?_)
    refine zg_if_eq (t := 50) (q := 43) C dX8_count_40 (by decide) rfl (fun c => ?_) (fun c => ?_)
    · have v := v.1 c
      refine zg_iconst (v := 0) (q := 51) C dX8_count_50 (by decide) rfl ?_
      exact zg_iret C rfl dX8_count_51 ⟨Nat.le_refl _, Nat.le_refl _⟩ ⟨_, rfl, v⟩
    · have v := v.2 c
      refine zg_aload_n (q := 44) C dX8_count_43 rfl rfl ?_
      refine zg_get (j := 23) (q := 47) C bX8 (by decide) lkX8_67 dX8_count_44 rfl (okI.get v.1) ?_
      have v := v.2
      refine zg_goto (t := 51) C dX8_count_47 (by decide) ?_
      exact zg_iret C rfl dX8_count_51 ⟨Nat.le_refl _, Nat.le_refl _⟩ ⟨_, rfl, v⟩
  · have v := v.2 c0
    by_cases c1 : x1 = (1 : Int32)
    · have v := v.1 c1
      refine zg_tabC (t := 52) (off := 51) C dX8_count_1 c1 (by decide) (by decide) (by decide) (by decide) ?_
      refine zg_aload_n (q := 53) C dX8_count_52 rfl rfl ?_
      refine zg_get (j := 1) (q := 56) C bX8 (by decide) lkX8_94 dX8_count_53 rfl (okI.get v.1) ?_
      have v := v.2
      exact zg_iret C rfl dX8_count_56 ⟨Nat.le_refl _, Nat.le_refl _⟩ ⟨_, rfl, v⟩
    · have v := v.2 c1
      by_cases c2 : x1 = (2 : Int32)
      · have v := v.1 c2
        refine zg_tabC (t := 57) (off := 56) C dX8_count_1 c2 (by decide) (by decide) (by decide) (by decide) ?_
        refine zg_aload_n (q := 58) C dX8_count_57 rfl rfl ?_
        refine zg_cV0I (q := 61) C mX8_isPlaying vX8_isPlaying lmX8_257 rfl (bX8).1 v.1 (Nat.le_of_ble_eq_true rfl) ⟨Nat.le_refl _, Nat.le_refl _⟩ dX8_count_58 rfl v.2 (fun r4 h3 v => ?_)
        refine zg_if_eq (t := 71) (q := 64) C dX8_count_61 (by decide) rfl (fun c => ?_) (fun c => ?_)
        · have v := v.1 c
          refine zg_iconst (v := 0) (q := 72) C dX8_count_71 (by decide) rfl ?_
          exact zg_iret C rfl dX8_count_72 ⟨Nat.le_refl _, Nat.le_refl _⟩ ⟨_, rfl, v⟩
        · have v := v.2 c
          refine zg_aload_n (q := 65) C dX8_count_64 rfl rfl ?_
          refine zg_cV0I (q := 68) C mX8_occurrences vX8_occurrences lmX8_272 rfl (bX8).1 v.1 (Nat.le_of_ble_eq_true rfl) ⟨Nat.le_refl _, Nat.le_refl _⟩ dX8_count_65 rfl v.2 (fun r6 h5 v => ?_)
          refine zg_goto (t := 72) C dX8_count_68 (by decide) ?_
          exact zg_iret C rfl dX8_count_72 ⟨Nat.le_refl _, Nat.le_refl _⟩ ⟨_, rfl, v⟩
      · have v := v.2 c2
        by_cases c3 : x1 = (3 : Int32)
        · have v := v.1 c3
          refine zg_tabC (t := 73) (off := 72) C dX8_count_1 c3 (by decide) (by decide) (by decide) (by decide) ?_
          refine zg_aload_n (q := 74) C dX8_count_73 rfl rfl ?_
          refine zg_cV0I (q := 77) C mX8_isPlaying vX8_isPlaying lmX8_257 rfl (bX8).1 v.1 (Nat.le_of_ble_eq_true rfl) ⟨Nat.le_refl _, Nat.le_refl _⟩ dX8_count_74 rfl v.2 (fun r8 h7 v => ?_)
          refine zg_if_eq (t := 87) (q := 80) C dX8_count_77 (by decide) rfl (fun c => ?_) (fun c => ?_)
          · have v := v.1 c
            refine zg_iconst (v := 0) (q := 88) C dX8_count_87 (by decide) rfl ?_
            exact zg_iret C rfl dX8_count_88 ⟨Nat.le_refl _, Nat.le_refl _⟩ ⟨_, rfl, v⟩
          · have v := v.2 c
            refine zg_aload_n (q := 81) C dX8_count_80 rfl rfl ?_
            refine zg_cV0I (q := 84) C mX8_countDifferent vX8_countDifferent lmX8_299 rfl (bX8).1 v.1 (Nat.le_of_ble_eq_true rfl) ⟨Nat.le_refl _, Nat.le_refl _⟩ dX8_count_81 rfl v.2 (fun r10 h9 v => ?_)
            refine zg_goto (t := 88) C dX8_count_84 (by decide) ?_
            exact zg_iret C rfl dX8_count_88 ⟨Nat.le_refl _, Nat.le_refl _⟩ ⟨_, rfl, v⟩
        · have v := v.2 c3
          by_cases c4 : x1 = (4 : Int32)
          · have v := v.1 c4
            refine zg_tabC (t := 89) (off := 88) C dX8_count_1 c4 (by decide) (by decide) (by decide) (by decide) ?_
            refine zg_aload_n (q := 90) C dX8_count_89 rfl rfl ?_
            refine zg_cV0I (q := 93) C mX8_isPlaying vX8_isPlaying lmX8_257 rfl (bX8).1 v.1 (Nat.le_of_ble_eq_true rfl) ⟨Nat.le_refl _, Nat.le_refl _⟩ dX8_count_90 rfl v.2 (fun r12 h11 v => ?_)
            refine zg_if_eq (t := 103) (q := 96) C dX8_count_93 (by decide) rfl (fun c => ?_) (fun c => ?_)
            · have v := v.1 c
              refine zg_iconst (v := 0) (q := 104) C dX8_count_103 (by decide) rfl ?_
              exact zg_iret C rfl dX8_count_104 ⟨Nat.le_refl _, Nat.le_refl _⟩ ⟨_, rfl, v⟩
            · have v := v.2 c
              refine zg_aload_n (q := 97) C dX8_count_96 rfl rfl ?_
              refine zg_cV0I (q := 100) C mX8_countSinceCapture vX8_countSinceCapture lmX8_302 rfl (bX8).1 v.1 (Nat.le_of_ble_eq_true rfl) ⟨Nat.le_refl _, Nat.le_refl _⟩ dX8_count_97 rfl v.2 (fun r14 h13 v => ?_)
              refine zg_goto (t := 104) C dX8_count_100 (by decide) ?_
              exact zg_iret C rfl dX8_count_104 ⟨Nat.le_refl _, Nat.le_refl _⟩ ⟨_, rfl, v⟩
          · have v := v.2 c4
            refine zg_tabD (t := 105) (cnt := 5) C dX8_count_1 (fun j hj => by match j, hj with | 0, _ => exact c0 | 1, _ => exact c1 | 2, _ => exact c2 | 3, _ => exact c3 | 4, _ => exact c4) rfl (by decide) ?_
            refine zg_iconst (v := (-1)) (q := 106) C dX8_count_105 (by decide) rfl ?_
            exact zg_iret C rfl dX8_count_106 ⟨Nat.le_refl _, Nat.le_refl _⟩ ⟨_, rfl, v⟩
theorem rnX8_count {E : Wd} {d : Nat} {a0 : Nat} {x1 : Int32} {h : Hp} {Q : Int32 → Hp → Prop} (k : vcX8_count_0 E d a0 x1 h Q) : OkI E YX8_count (d + 1) [.ref a0, .int x1] h Q :=
  zz_body2 (r := 0) mX8_count (zc_a (zc_i zc_n)) (Nat.le_of_ble_eq_true rfl) (fun X C => zsX8_count_0 C a0 x1 h k)
