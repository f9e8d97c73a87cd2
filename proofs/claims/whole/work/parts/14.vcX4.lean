def vcX4_init_0 (E : Wd) (d : Nat) (mc ms : Nat) (K120 : Nat → Nat → Int32 → Int32 → Hp → Prop) (a0 : Nat) (a1 : Nat) (h : Hp) (Q : Hp → Prop) : Prop :=
  (1 ≤ mc ∧ 3 ≤ ms) ∧ ∀ h1, h1 = nA E h 0 3 → okP h1 a0 4 11 ∧ ∀ h3, h3 = pF h1 a0 11 (.ref (h.1)) → (2 ≤ mc ∧ 6 ≤ ms) ∧ ∀ h4, h4 = nA E h3 0 3 → okP h4 a0 4 12 ∧ ∀ h6, h6 = pF h4 a0 12 (.ref (h3.1)) → okI h6 a1 3 3 ∧ okP h6 a0 4 0 ∧ ∀ h7, h7 = pF h6 a0 0 (.int (fI h6 a1 3)) → okI h7 a1 3 4 ∧ okP h7 a0 4 1 ∧ ∀ h8, h8 = pF h7 a0 1 (.int (fI h7 a1 4)) → okI h8 a0 4 0 ∧ okI h8 a0 4 1 ∧ okP h8 a0 4 2 ∧ ∀ h9, h9 = pF h8 a0 2 (.int ((fI h8 a0 0) * (fI h8 a0 1))) → okI h9 a1 3 7 ∧ okP h9 a0 4 3 ∧ ∀ h10, h10 = pF h9 a0 3 (.int (fI h9 a1 7)) → okI h10 a0 4 2 ∧ okI h10 a0 4 3 ∧ okP h10 a0 4 4 ∧ ∀ h11, h11 = pF h10 a0 4 (.int ((((1 : Int32) <<< ((fI h10 a0 2) &&& 31)) - (1 : Int32)) &&& ((fI h10 a0 3) ^^^ (-1 : Int32)))) → okI h11 a1 3 5 ∧ okP h11 a0 4 5 ∧ ∀ h12, h12 = pF h11 a0 5 (.int (fI h11 a1 5)) → okI h12 a1 3 6 ∧ okP h12 a0 4 6 ∧ ∀ h13, h13 = pF h12 a0 6 (.int (fI h12 a1 6)) → okI h13 a1 3 8 ∧ okP h13 a0 4 7 ∧ ∀ h14, h14 = pF h13 a0 7 (.int (fI h13 a1 8)) → okI h14 a1 3 9 ∧ okP h14 a0 4 8 ∧ ∀ h15, h15 = pF h14 a0 8 (.int (fI h14 a1 9)) → okI h15 a0 4 2 ∧ okP h15 a0 4 9 ∧ ∀ h16, h16 = pF h15 a0 9 (.int ((fI h15 a0 2) + (1 : Int32))) → K120 a0 a1 2 2 h16
def vcX4_init_147 (E : Wd) (d : Nat) (mc ms : Nat) (K120 : Nat → Nat → Int32 → Int32 → Hp → Prop) (a0 : Nat) (a1 : Nat) (x2 : Int32) (x3 : Int32) (s0 : Nat) (s1 : Int32) (s2 : Int32) (h : Hp) (Q : Hp → Prop) : Prop :=
  (2 ≤ mc ∧ 6 ≤ ms) ∧ okR E h s0 0 s1 ∧ ∀ h1, h1 = sA h s0 s1 s2 → okA h1 a0 4 12 ∧ okR E h1 (fA h1 a0 12) 0 x3 ∧ ∀ h2, h2 = sA h1 (fA h1 a0 12) x3 x2 → okI h2 a0 4 9 ∧ K120 a0 a1 (x2 * (fI h2 a0 9)) (x3 + (-1)) h2
def vcX4_init_120 (E : Wd) (d : Nat) (mc ms : Nat) (K120 : Nat → Nat → Int32 → Int32 → Hp → Prop) (a0 : Nat) (a1 : Nat) (x2 : Int32) (x3 : Int32) (h : Hp) (Q : Hp → Prop) : Prop :=
  (2 ≤ mc ∧ 6 ≤ ms) ∧ (x3 < (0 : Int32) → okP h a0 4 10 ∧ ∀ h1, h1 = pF h a0 10 (.int (if (4394 : Int32) < x2 then (4394 : Int32) else x2)) → Q h1) ∧ (¬ x3 < (0 : Int32) → okA h a0 4 11 ∧ okI h a0 4 5 ∧ ((fI h a0 5) ≤ x3 → vcX4_init_147 E d mc ms K120 a0 a1 x2 x3 (fA h a0 11) x3 ((-1)) h Q) ∧ (¬ (fI h a0 5) ≤ x3 → okA h a1 3 10 ∧ okR E h (fA h a1 10) 0 x3 ∧ vcX4_init_147 E d mc ms K120 a0 a1 x2 x3 (fA h a0 11) x3 (gA h (fA h a1 10) x3) h Q))
def zkX4_init_120 (E : Wd) (X : Mx) : Nat → Nat → Int32 → Int32 → Hp → Prop := fun a0 a1 x2 x3 h => GG E X 4 2 6 120 [some (.ref a0), some (.ref a1), some (.int x2), some (.int x3)] [] h
set_option maxRecDepth 100000 in
set_option maxHeartbeats 4000000 in
theorem zsX4_init_0 {E : Wd} {X : Mx} {d mc ms : Nat} {Q : Hp → Prop} (C : zz_C E X YX4_init (d + 1) mc ms (fun r h' => r = none ∧ Q h')) (a0 : Nat) (a1 : Nat) (h : Hp) (v : vcX4_init_0 E d mc ms (zkX4_init_120 E X) a0 a1 h Q) : GG E X 4 0 0 0 [some (.ref a0), some (.ref a1), none, none] [] h := by
  refine zg_aload_n (q := 1) C dX4_init_0 rfl rfl ?_
  refine zg_objInit (q := 4) C oiX4 rfl (Nat.le_add_left _ _) (Nat.le_of_ble_eq_true rfl) dX4_init_1 rfl ?_
  refine zg_aload_n (q := 5) C dX4_init_4 rfl rfl ?_
  refine zg_iconst (v := 3) (q := 6) C dX4_init_5 (by decide) rfl ?_
  refine zg_newI (m := 3) (q := 8) C ar0 dX4_init_6 rfl (by decide) (by decide) (by decide) v.1 ?_
  have c2 := v.1
  have v := v.2 _ rfl
  refine zg_putF (j := 11) (q := 11) C bX4 (by decide) lkX4_9 dX4_init_8 rfl rfl rfl rfl v.1 rfl rfl ?_
  have v := v.2 _ rfl
  refine zg_aload_n (q := 12) C dX4_init_11 rfl rfl ?_
  refine zg_iconst (v := 3) (q := 13) C dX4_init_12 (by decide) rfl ?_
  refine zg_newI (m := 3) (q := 15) C ar0 dX4_init_13 rfl (by decide) (by decide) (by decide) v.1 ?_
  have c5 := v.1
  have v := v.2 _ rfl
  refine zg_putF (j := 12) (q := 18) C bX4 (by decide) lkX4_15 dX4_init_15 rfl rfl rfl rfl v.1 rfl rfl ?_
  have v := v.2 _ rfl
  refine zg_aload_n (q := 19) C dX4_init_18 rfl rfl ?_
  refine zg_aload_n (q := 20) C dX4_init_19 rfl rfl ?_
  refine zg_getN (j := 3) (q := 23) C bX3 (by decide) lkX4_18 dX4_init_20 rfl (okI.get v.1) ?_
  have v := v.2
  refine zg_putF (j := 0) (q := 26) C bX4 (by decide) lkX4_24 dX4_init_23 rfl rfl rfl rfl v.1 rfl rfl ?_
  have v := v.2 _ rfl
  refine zg_aload_n (q := 27) C dX4_init_26 rfl rfl ?_
  refine zg_aload_n (q := 28) C dX4_init_27 rfl rfl ?_
  refine zg_getN (j := 4) (q := 31) C bX3 (by decide) lkX4_25 dX4_init_28 rfl (okI.get v.1) ?_
  have v := v.2
  refine zg_putF (j := 1) (q := 34) C bX4 (by decide) lkX4_28 dX4_init_31 rfl rfl rfl rfl v.1 rfl rfl ?_
  have v := v.2 _ rfl
  refine zg_aload_n (q := 35) C dX4_init_34 rfl rfl ?_
  refine zg_aload_n (q := 36) C dX4_init_35 rfl rfl ?_
  refine zg_get (j := 0) (q := 39) C bX4 (by decide) lkX4_24 dX4_init_36 rfl (okI.get v.1) ?_
  have v := v.2
  refine zg_aload_n (q := 40) C dX4_init_39 rfl rfl ?_
  refine zg_get (j := 1) (q := 43) C bX4 (by decide) lkX4_28 dX4_init_40 rfl (okI.get v.1) ?_
  have v := v.2
  refine zg_imul (q := 44) C dX4_init_43 rfl ?_
  refine zg_putF (j := 2) (q := 47) C bX4 (by decide) lkX4_29 dX4_init_44 rfl rfl rfl rfl v.1 rfl rfl ?_
  have v := v.2 _ rfl
  refine zg_aload_n (q := 48) C dX4_init_47 rfl rfl ?_
  refine zg_aload_n (q := 49) C dX4_init_48 rfl rfl ?_
  refine zg_getN (j := 7) (q := 52) C bX3 (by decide) lkX4_32 dX4_init_49 rfl (okI.get v.1) ?_
  have v := v.2
  refine zg_putF (j := 3) (q := 55) C bX4 (by decide) lkX4_35 dX4_init_52 rfl rfl rfl rfl v.1 rfl rfl ?_
  have v := v.2 _ rfl
  refine zg_aload_n (q := 56) C dX4_init_55 rfl rfl ?_
  refine zg_iconst (v := 1) (q := 57) C dX4_init_56 (by decide) rfl ?_
  refine zg_aload_n (q := 58) C dX4_init_57 rfl rfl ?_
  refine zg_get (j := 2) (q := 61) C bX4 (by decide) lkX4_29 dX4_init_58 rfl (okI.get v.1) ?_
  have v := v.2
  refine zg_ishl (q := 62) C dX4_init_61 rfl ?_
  refine zg_iconst (v := 1) (q := 63) C dX4_init_62 (by decide) rfl ?_
  refine zg_isub (q := 64) C dX4_init_63 rfl ?_
  refine zg_aload_n (q := 65) C dX4_init_64 rfl rfl ?_
  refine zg_get (j := 3) (q := 68) C bX4 (by decide) lkX4_35 dX4_init_65 rfl (okI.get v.1) ?_
  have v := v.2
  refine zg_iconst (v := (-1)) (q := 69) C dX4_init_68 (by decide) rfl ?_
  refine zg_ixor (q := 70) C dX4_init_69 rfl ?_
  refine zg_iand (q := 71) C dX4_init_70 rfl ?_
  refine zg_putF (j := 4) (q := 74) C bX4 (by decide) lkX4_36 dX4_init_71 rfl rfl rfl rfl v.1 rfl rfl ?_
  have v := v.2 _ rfl
  refine zg_aload_n (q := 75) C dX4_init_74 rfl rfl ?_
  refine zg_aload_n (q := 76) C dX4_init_75 rfl rfl ?_
  refine zg_getN (j := 5) (q := 79) C bX3 (by decide) lkX4_39 dX4_init_76 rfl (okI.get v.1) ?_
  have v := v.2
  refine zg_putF (j := 5) (q := 82) C bX4 (by decide) lkX4_42 dX4_init_79 rfl rfl rfl rfl v.1 rfl rfl ?_
  have v := v.2 _ rfl
  refine zg_aload_n (q := 83) C dX4_init_82 rfl rfl ?_
  refine zg_aload_n (q := 84) C dX4_init_83 rfl rfl ?_
  refine zg_getN (j := 6) (q := 87) C bX3 (by decide) lkX4_43 dX4_init_84 rfl (okI.get v.1) ?_
  have v := v.2
  refine zg_putF (j := 6) (q := 90) C bX4 (by decide) lkX4_46 dX4_init_87 rfl rfl rfl rfl v.1 rfl rfl ?_
  have v := v.2 _ rfl
  refine zg_aload_n (q := 91) C dX4_init_90 rfl rfl ?_
  refine zg_aload_n (q := 92) C dX4_init_91 rfl rfl ?_
  refine zg_getN (j := 8) (q := 95) C bX3 (by decide) lkX4_47 dX4_init_92 rfl (okI.get v.1) ?_
  have v := v.2
  refine zg_putF (j := 7) (q := 98) C bX4 (by decide) lkX4_50 dX4_init_95 rfl rfl rfl rfl v.1 rfl rfl ?_
  have v := v.2 _ rfl
  refine zg_aload_n (q := 99) C dX4_init_98 rfl rfl ?_
  refine zg_aload_n (q := 100) C dX4_init_99 rfl rfl ?_
  refine zg_getN (j := 9) (q := 103) C bX3 (by decide) lkX4_51 dX4_init_100 rfl (okI.get v.1) ?_
  have v := v.2
  refine zg_putF (j := 8) (q := 106) C bX4 (by decide) lkX4_54 dX4_init_103 rfl rfl rfl rfl v.1 rfl rfl ?_
  have v := v.2 _ rfl
  refine zg_aload_n (q := 107) C dX4_init_106 rfl rfl ?_
  refine zg_aload_n (q := 108) C dX4_init_107 rfl rfl ?_
  refine zg_get (j := 2) (q := 111) C bX4 (by decide) lkX4_29 dX4_init_108 rfl (okI.get v.1) ?_
  have v := v.2
  refine zg_iconst (v := 1) (q := 112) C dX4_init_111 (by decide) rfl ?_
  refine zg_iadd (q := 113) C dX4_init_112 rfl ?_
  refine zg_putF (j := 9) (q := 116) C bX4 (by decide) lkX4_55 dX4_init_113 rfl rfl rfl rfl v.1 rfl rfl ?_
  have v := v.2 _ rfl
  refine zg_iconst (v := 2) (q := 117) C dX4_init_116 (by decide) rfl ?_
  refine zg_istore_n (q := 118) C dX4_init_117 (by decide) rfl ?_
  refine zg_iconst (v := 2) (q := 119) C dX4_init_118 (by decide) rfl ?_
  refine zg_istore_n (q := 120) C dX4_init_119 (by decide) rfl ?_
  exact zg_mask [true, true, true, true] v
set_option maxRecDepth 100000 in
set_option maxHeartbeats 4000000 in
theorem zsX4_init_147 {E : Wd} {X : Mx} {d mc ms : Nat} {Q : Hp → Prop} (C : zz_C E X YX4_init (d + 1) mc ms (fun r h' => r = none ∧ Q h')) (a0 : Nat) (a1 : Nat) (x2 : Int32) (x3 : Int32) (s0 : Nat) (s1 : Int32) (s2 : Int32) (h : Hp) (v : vcX4_init_147 E d mc ms (zkX4_init_120 E X) a0 a1 x2 x3 s0 s1 s2 h Q) : GG E X 4 2 6 147 [some (.ref a0), some (.ref a1), some (.int x2), some (.int x3)] [.int s2, .int s1, .ref s0] h := by
  have hc := v.1
  have v := v.2
  refine zg_iast (q := 148) C dX4_init_147 rfl v.1 ?_
  have v := v.2 _ rfl
  refine zg_aload_n (q := 149) C dX4_init_148 rfl rfl ?_
  refine zg_get (j := 12) (q := 152) C bX4 (by decide) lkX4_15 dX4_init_149 rfl (okA.get v.1) ?_
  have v := v.2
  refine zg_iload_n (q := 153) C dX4_init_152 rfl rfl ?_
  refine zg_iload_n (q := 154) C dX4_init_153 rfl rfl ?_
  refine zg_iast (q := 155) C dX4_init_154 rfl v.1 ?_
  have v := v.2 _ rfl
  refine zg_iload_n (q := 156) C dX4_init_155 rfl rfl ?_
  refine zg_aload_n (q := 157) C dX4_init_156 rfl rfl ?_
  refine zg_get (j := 9) (q := 160) C bX4 (by decide) lkX4_55 dX4_init_157 rfl (okI.get v.1) ?_
  have v := v.2
  refine zg_imul (q := 161) C dX4_init_160 rfl ?_
  refine zg_istore_n (q := 162) C dX4_init_161 (by decide) rfl ?_
  refine zg_iinc (v := (-1)) (q := 165) C dX4_init_162 rfl (by decide) (by decide) rfl ?_
  refine zg_goto (t := 120) C dX4_init_165 (by decide) ?_
  exact zg_mask [true, true, true, true] v
set_option maxRecDepth 100000 in
set_option maxHeartbeats 4000000 in
theorem zsX4_init_120 {E : Wd} {X : Mx} {d mc ms : Nat} {Q : Hp → Prop} (C : zz_C E X YX4_init (d + 1) mc ms (fun r h' => r = none ∧ Q h')) (a0 : Nat) (a1 : Nat) (x2 : Int32) (x3 : Int32) (h : Hp) (v : vcX4_init_120 E d mc ms (zkX4_init_120 E X) a0 a1 x2 x3 h Q) : GG E X 4 2 6 120 [some (.ref a0), some (.ref a1), some (.int x2), some (.int x3)] [] h := by
  have hc := v.1
  have v := v.2
  refine zg_iload_n (q := 121) C dX4_init_120 rfl rfl ?_
  refine zg_if_lt (t := 168) (q := 124) C dX4_init_121 (by decide) rfl (fun c => ?_) (fun c => ?_)
  · have v := v.1 c
    refine zg_aload_n (q := 169) C dX4_init_168 rfl rfl ?_
    refine zg_iload_n (q := 170) C dX4_init_169 rfl rfl ?_
    refine zg_sipush (v := 4394) (q := 173) C dX4_init_170 (by decide) rfl ?_
    refine zg_min (q := 176) C maX4_59 rfl (Nat.le_add_left _ _) (Nat.le_of_ble_eq_true rfl) hc dX4_init_173 rfl ?_
    refine zg_putF (j := 10) (q := 179) C bX4 (by decide) lkX4_65 dX4_init_176 rfl rfl rfl rfl v.1 rfl rfl ?_
    have v := v.2 _ rfl
    exact zg_vret C rfl dX4_init_179 hc ⟨rfl, v⟩
  · have v := v.2 c
    refine zg_aload_n (q := 125) C dX4_init_124 rfl rfl ?_
    refine zg_get (j := 11) (q := 128) C bX4 (by decide) lkX4_9 dX4_init_125 rfl (okA.get v.1) ?_
    have v := v.2
    refine zg_iload_n (q := 129) C dX4_init_128 rfl rfl ?_
    refine zg_iload_n (q := 130) C dX4_init_129 rfl rfl ?_
    refine zg_aload_n (q := 131) C dX4_init_130 rfl rfl ?_
    refine zg_get (j := 5) (q := 134) C bX4 (by decide) lkX4_42 dX4_init_131 rfl (okI.get v.1) ?_
    have v := v.2
    refine zg_icmp_ge (t := 146) (q := 137) C dX4_init_134 (by decide) rfl (fun c => ?_) (fun c => ?_)
    · have v := v.1 c
      refine zg_iconst (v := (-1)) (q := 147) C dX4_init_146 (by decide) rfl ?_
      exact zg_mask [true, true, true, true] (zsX4_init_147 C _ _ _ _ _ _ _ _ v)
    · have v := v.2 c
      refine zg_aload_n (q := 138) C dX4_init_137 rfl rfl ?_
      refine zg_getN (j := 10) (q := 141) C bX3 (by decide) lkX4_58 dX4_init_138 rfl (okA.get v.1) ?_
      have v := v.2
      refine zg_iload_n (q := 142) C dX4_init_141 rfl rfl ?_
      refine zg_iald (q := 143) C dX4_init_142 rfl v.1 ?_
      have v := v.2
      refine zg_goto (t := 147) C dX4_init_143 (by decide) ?_
      exact zg_mask [true, true, true, true] (zsX4_init_147 C _ _ _ _ _ _ _ _ v)
theorem rnX4_init {E : Wd} {d mc ms : Nat} {a0 : Nat} {a1 : Nat} {h : Hp} {Q : Hp → Prop} (k : ∀ (K120 : Nat → Nat → Int32 → Int32 → Hp → Prop),(∀ (a0 : Nat) (a1 : Nat) (x2 : Int32) (x3 : Int32) h, vcX4_init_120 E d mc ms K120 a0 a1 x2 x3 h Q → K120 a0 a1 x2 x3 h) → vcX4_init_0 E d mc ms K120 a0 a1 h Q) : OkW E YX4_init (d + 1) mc ms [.ref a0, .ref a1] h Q :=
  zz_body2 (r := 2) mX4_init (zc_a (zc_a zc_n)) (Nat.le_of_ble_eq_true rfl) (fun X C => zsX4_init_0 C a0 a1 h (k (zkX4_init_120 E X) (fun a0 a1 x2 x3 h v => zsX4_init_120 C a0 a1 x2 x3 h v)))
def vcX4_isMan_0 (E : Wd) (d : Nat) (a0 : Nat) (x1 : Int32) (h : Hp) (Q : Int32 → Hp → Prop) : Prop :=
  (x1 < (0 : Int32) → mB 0 ∧ Q 0 h) ∧ (¬ x1 < (0 : Int32) → okI h a0 4 5 ∧ ((fI h a0 5) ≤ x1 → mB 0 ∧ Q 0 h) ∧ (¬ (fI h a0 5) ≤ x1 → ((3 : Int32) ≤ x1 → mB 0 ∧ Q 0 h) ∧ (¬ (3 : Int32) ≤ x1 → mB 1 ∧ Q 1 h)))
set_option maxRecDepth 100000 in
set_option maxHeartbeats 4000000 in
theorem zsX4_isMan_0 {E : Wd} {X : Mx} {d : Nat} {Q : Int32 → Hp → Prop} (C : zz_C E X YX4_isMan d 0 0 (fun r h' => ∃ x : Int32, r = some (.int x) ∧ Q x h')) (a0 : Nat) (x1 : Int32) (h : Hp) (v : vcX4_isMan_0 E d a0 x1 h Q) : GG E X 2 0 0 0 [some (.ref a0), some (.int x1)] [] h := by
  refine zg_iload_n (q := 1) C dX4_isMan_0 rfl rfl ?_
  refine zg_if_lt (t := 21) (q := 4) C dX4_isMan_1 (by decide) rfl (fun c => ?_) (fun c => ?_)
  · have v := v.1 c
    refine zg_iconst (v := 0) (q := 22) C dX4_isMan_21 (by decide) rfl ?_
    exact zg_zret C rfl dX4_isMan_22 ⟨Nat.le_refl _, Nat.le_refl _⟩ v.1 ⟨_, rfl, v.2⟩
  · have v := v.2 c
    refine zg_iload_n (q := 5) C dX4_isMan_4 rfl rfl ?_
    refine zg_aload_n (q := 6) C dX4_isMan_5 rfl rfl ?_
    refine zg_get (j := 5) (q := 9) C bX4 (by decide) lkX4_42 dX4_isMan_6 rfl (okI.get v.1) ?_
    have v := v.2
    refine zg_icmp_ge (t := 21) (q := 12) C dX4_isMan_9 (by decide) rfl (fun c => ?_) (fun c => ?_)
    · have v := v.1 c
      refine zg_iconst (v := 0) (q := 22) C dX4_isMan_21 (by decide) rfl ?_
      exact zg_zret C rfl dX4_isMan_22 ⟨Nat.le_refl _, Nat.le_refl _⟩ v.1 ⟨_, rfl, v.2⟩
    · have v := v.2 c
      refine zg_iload_n (q := 13) C dX4_isMan_12 rfl rfl ?_
      refine zg_iconst (v := 3) (q := 14) C dX4_isMan_13 (by decide) rfl ?_
      refine zg_icmp_ge (t := 21) (q := 17) C dX4_isMan_14 (by decide) rfl (fun c => ?_) (fun c => ?_)
      · have v := v.1 c
        refine zg_iconst (v := 0) (q := 22) C dX4_isMan_21 (by decide) rfl ?_
        exact zg_zret C rfl dX4_isMan_22 ⟨Nat.le_refl _, Nat.le_refl _⟩ v.1 ⟨_, rfl, v.2⟩
      · have v := v.2 c
        refine zg_iconst (v := 1) (q := 18) C dX4_isMan_17 (by decide) rfl ?_
        refine zg_goto (t := 22) C dX4_isMan_18 (by decide) ?_
        exact zg_zret C rfl dX4_isMan_22 ⟨Nat.le_refl _, Nat.le_refl _⟩ v.1 ⟨_, rfl, v.2⟩
theorem rnX4_isMan {E : Wd} {d : Nat} {a0 : Nat} {x1 : Int32} {h : Hp} {Q : Int32 → Hp → Prop} (k : vcX4_isMan_0 E d a0 x1 h Q) : OkI E YX4_isMan d [.ref a0, .int x1] h Q :=
  zz_body2 (r := 0) mX4_isMan (zc_a (zc_i zc_n)) (Nat.le_of_ble_eq_true rfl) (fun X C => zsX4_isMan_0 C a0 x1 h k)
def vcX4_kindOf_0 (E : Wd) (d : Nat) (a0 : Nat) (x1 : Int32) (h : Hp) (Q : Int32 → Hp → Prop) : Prop :=
  isO h a0 4 ∧ OkI E YX4_isMan d [.ref a0, .int x1] h (fun r2 h1 => (r2 = (0 : Int32) → Q ((-1)) h1) ∧ (¬ r2 = (0 : Int32) → okA h1 a0 4 11 ∧ okR E h1 (fA h1 a0 11) 0 x1 ∧ Q (gA h1 (fA h1 a0 11) x1) h1))
set_option maxRecDepth 100000 in
set_option maxHeartbeats 4000000 in
theorem zsX4_kindOf_0 {E : Wd} {X : Mx} {d : Nat} {Q : Int32 → Hp → Prop} (C : zz_C E X YX4_kindOf (d + 1) 0 0 (fun r h' => ∃ x : Int32, r = some (.int x) ∧ Q x h')) (a0 : Nat) (x1 : Int32) (h : Hp) (v : vcX4_kindOf_0 E d a0 x1 h Q) : GG E X 2 0 0 0 [some (.ref a0), some (.int x1)] [] h := by
  refine zg_aload_n (q := 1) C dX4_kindOf_0 rfl rfl ?_
  refine zg_iload_n (q := 2) C dX4_kindOf_1 rfl rfl ?_
  refine zg_cV1I (q := 5) C mX4_isMan vX4_isMan lmX4_68 rfl (bX4).1 v.1 (Nat.le_of_ble_eq_true rfl) ⟨Nat.le_refl _, Nat.le_refl _⟩ dX4_kindOf_2 rfl v.2 (fun r2 h1 v => ?_)
  refine zg_if_eq (t := 17) (q := 8) C dX4_kindOf_5 (by decide) rfl (fun c => ?_) (fun c => ?_)
  · have v := v.1 c
    refine zg_iconst (v := (-1)) (q := 18) C dX4_kindOf_17 (by decide) rfl ?_
    exact zg_iret C rfl dX4_kindOf_18 ⟨Nat.le_refl _, Nat.le_refl _⟩ ⟨_, rfl, v⟩
  · have v := v.2 c
    refine zg_aload_n (q := 9) C dX4_kindOf_8 rfl rfl ?_
    refine zg_get (j := 11) (q := 12) C bX4 (by decide) lkX4_9 dX4_kindOf_9 rfl (okA.get v.1) ?_
    have v := v.2
    refine zg_iload_n (q := 13) C dX4_kindOf_12 rfl rfl ?_
    refine zg_iald (q := 14) C dX4_kindOf_13 rfl v.1 ?_
    have v := v.2
    refine zg_goto (t := 18) C dX4_kindOf_14 (by decide) ?_
    exact zg_iret C rfl dX4_kindOf_18 ⟨Nat.le_refl _, Nat.le_refl _⟩ ⟨_, rfl, v⟩
theorem rnX4_kindOf {E : Wd} {d : Nat} {a0 : Nat} {x1 : Int32} {h : Hp} {Q : Int32 → Hp → Prop} (k : vcX4_kindOf_0 E d a0 x1 h Q) : OkI E YX4_kindOf (d + 1) [.ref a0, .int x1] h Q :=
  zz_body2 (r := 0) mX4_kindOf (zc_a (zc_i zc_n)) (Nat.le_of_ble_eq_true rfl) (fun X C => zsX4_kindOf_0 C a0 x1 h k)
def vcX4_sideOf_0 (E : Wd) (d : Nat) (a0 : Nat) (x1 : Int32) (h : Hp) (Q : Int32 → Hp → Prop) : Prop :=
  okI h a0 4 6 ∧ ((fI h a0 6) ≤ x1 → Q 1 h) ∧ (¬ (fI h a0 6) ≤ x1 → Q 0 h)
set_option maxRecDepth 100000 in
set_option maxHeartbeats 4000000 in
theorem zsX4_sideOf_0 {E : Wd} {X : Mx} {d : Nat} {Q : Int32 → Hp → Prop} (C : zz_C E X YX4_sideOf d 0 0 (fun r h' => ∃ x : Int32, r = some (.int x) ∧ Q x h')) (a0 : Nat) (x1 : Int32) (h : Hp) (v : vcX4_sideOf_0 E d a0 x1 h Q) : GG E X 2 0 0 0 [some (.ref a0), some (.int x1)] [] h := by
  refine zg_iload_n (q := 1) C dX4_sideOf_0 rfl rfl ?_
  refine zg_aload_n (q := 2) C dX4_sideOf_1 rfl rfl ?_
  refine zg_get (j := 6) (q := 5) C bX4 (by decide) lkX4_46 dX4_sideOf_2 rfl (okI.get v.1) ?_
  have v := v.2
  refine zg_icmp_ge (t := 12) (q := 8) C dX4_sideOf_5 (by decide) rfl (fun c => ?_) (fun c => ?_)
  · have v := v.1 c
    refine zg_iconst (v := 1) (q := 13) C dX4_sideOf_12 (by decide) rfl ?_
    exact zg_iret C rfl dX4_sideOf_13 ⟨Nat.le_refl _, Nat.le_refl _⟩ ⟨_, rfl, v⟩
  · have v := v.2 c
    refine zg_iconst (v := 0) (q := 9) C dX4_sideOf_8 (by decide) rfl ?_
    refine zg_goto (t := 13) C dX4_sideOf_9 (by decide) ?_
    exact zg_iret C rfl dX4_sideOf_13 ⟨Nat.le_refl _, Nat.le_refl _⟩ ⟨_, rfl, v⟩
theorem rnX4_sideOf {E : Wd} {d : Nat} {a0 : Nat} {x1 : Int32} {h : Hp} {Q : Int32 → Hp → Prop} (k : vcX4_sideOf_0 E d a0 x1 h Q) : OkI E YX4_sideOf d [.ref a0, .int x1] h Q :=
  zz_body2 (r := 0) mX4_sideOf (zc_a (zc_i zc_n)) (Nat.le_of_ble_eq_true rfl) (fun X C => zsX4_sideOf_0 C a0 x1 h k)
def vcX4_firstMan_0 (E : Wd) (d : Nat) (a0 : Nat) (x1 : Int32) (h : Hp) (Q : Int32 → Hp → Prop) : Prop :=
  (¬ x1 = (0 : Int32) → okI h a0 4 6 ∧ Q (fI h a0 6) h) ∧ (x1 = (0 : Int32) → Q 0 h)
set_option maxRecDepth 100000 in
set_option maxHeartbeats 4000000 in
theorem zsX4_firstMan_0 {E : Wd} {X : Mx} {d : Nat} {Q : Int32 → Hp → Prop} (C : zz_C E X YX4_firstMan d 0 0 (fun r h' => ∃ x : Int32, r = some (.int x) ∧ Q x h')) (a0 : Nat) (x1 : Int32) (h : Hp) (v : vcX4_firstMan_0 E d a0 x1 h Q) : GG E X 2 0 0 0 [some (.ref a0), some (.int x1)] [] h := by
  refine zg_iload_n (q := 1) C dX4_firstMan_0 rfl rfl ?_
  refine zg_if_ne (t := 8) (q := 4) C dX4_firstMan_1 (by decide) rfl (fun c => ?_) (fun c => ?_)
  · have v := v.1 c
    refine zg_aload_n (q := 9) C dX4_firstMan_8 rfl rfl ?_
    refine zg_get (j := 6) (q := 12) C bX4 (by decide) lkX4_46 dX4_firstMan_9 rfl (okI.get v.1) ?_
    have v := v.2
    exact zg_iret C rfl dX4_firstMan_12 ⟨Nat.le_refl _, Nat.le_refl _⟩ ⟨_, rfl, v⟩
  · have v := v.2 c
    refine zg_iconst (v := 0) (q := 5) C dX4_firstMan_4 (by decide) rfl ?_
    refine zg_goto (t := 12) C dX4_firstMan_5 (by decide) ?_
    exact zg_iret C rfl dX4_firstMan_12 ⟨Nat.le_refl _, Nat.le_refl _⟩ ⟨_, rfl, v⟩
theorem rnX4_firstMan {E : Wd} {d : Nat} {a0 : Nat} {x1 : Int32} {h : Hp} {Q : Int32 → Hp → Prop} (k : vcX4_firstMan_0 E d a0 x1 h Q) : OkI E YX4_firstMan d [.ref a0, .int x1] h Q :=
  zz_body2 (r := 0) mX4_firstMan (zc_a (zc_i zc_n)) (Nat.le_of_ble_eq_true rfl) (fun X C => zsX4_firstMan_0 C a0 x1 h k)
def vcX4_endOfMen_0 (E : Wd) (d : Nat) (a0 : Nat) (x1 : Int32) (h : Hp) (Q : Int32 → Hp → Prop) : Prop :=
  (¬ x1 = (0 : Int32) → okI h a0 4 5 ∧ Q (fI h a0 5) h) ∧ (x1 = (0 : Int32) → okI h a0 4 6 ∧ Q (fI h a0 6) h)
set_option maxRecDepth 100000 in
set_option maxHeartbeats 4000000 in
theorem zsX4_endOfMen_0 {E : Wd} {X : Mx} {d : Nat} {Q : Int32 → Hp → Prop} (C : zz_C E X YX4_endOfMen d 0 0 (fun r h' => ∃ x : Int32, r = some (.int x) ∧ Q x h')) (a0 : Nat) (x1 : Int32) (h : Hp) (v : vcX4_endOfMen_0 E d a0 x1 h Q) : GG E X 2 0 0 0 [some (.ref a0), some (.int x1)] [] h := by
  refine zg_iload_n (q := 1) C dX4_endOfMen_0 rfl rfl ?_
  refine zg_if_ne (t := 11) (q := 4) C dX4_endOfMen_1 (by decide) rfl (fun c => ?_) (fun c => ?_)
  · have v := v.1 c
    refine zg_aload_n (q := 12) C dX4_endOfMen_11 rfl rfl ?_
    refine zg_get (j := 5) (q := 15) C bX4 (by decide) lkX4_42 dX4_endOfMen_12 rfl (okI.get v.1) ?_
    have v := v.2
    exact zg_iret C rfl dX4_endOfMen_15 ⟨Nat.le_refl _, Nat.le_refl _⟩ ⟨_, rfl, v⟩
  · have v := v.2 c
    refine zg_aload_n (q := 5) C dX4_endOfMen_4 rfl rfl ?_
    refine zg_get (j := 6) (q := 8) C bX4 (by decide) lkX4_46 dX4_endOfMen_5 rfl (okI.get v.1) ?_
    have v := v.2
    refine zg_goto (t := 15) C dX4_endOfMen_8 (by decide) ?_
    exact zg_iret C rfl dX4_endOfMen_15 ⟨Nat.le_refl _, Nat.le_refl _⟩ ⟨_, rfl, v⟩
theorem rnX4_endOfMen {E : Wd} {d : Nat} {a0 : Nat} {x1 : Int32} {h : Hp} {Q : Int32 → Hp → Prop} (k : vcX4_endOfMen_0 E d a0 x1 h Q) : OkI E YX4_endOfMen d [.ref a0, .int x1] h Q :=
  zz_body2 (r := 0) mX4_endOfMen (zc_a (zc_i zc_n)) (Nat.le_of_ble_eq_true rfl) (fun X C => zsX4_endOfMen_0 C a0 x1 h k)
def vcX4_canTell_0 (E : Wd) (d : Nat) (a0 : Nat) (x1 : Int32) (x2 : Int32) (h : Hp) (Q : Int32 → Hp → Prop) : Prop :=
  (x2 = ((-1)) → mB 1 ∧ Q 1 h) ∧ (¬ x2 = ((-1)) → isO h a0 4 ∧ OkI E YX4_isMan d [.ref a0, .int x1] h (fun r2 h1 => (r2 = (0 : Int32) → mB 0 ∧ Q 0 h1) ∧ (¬ r2 = (0 : Int32) → (x2 < (0 : Int32) → mB 0 ∧ Q 0 h1) ∧ (¬ x2 < (0 : Int32) → okI h1 a0 4 2 ∧ ((fI h1 a0 2) ≤ x2 → mB 0 ∧ Q 0 h1) ∧ (¬ (fI h1 a0 2) ≤ x2 → mB 1 ∧ Q 1 h1)))))
set_option maxRecDepth 100000 in
set_option maxHeartbeats 4000000 in
theorem zsX4_canTell_0 {E : Wd} {X : Mx} {d : Nat} {Q : Int32 → Hp → Prop} (C : zz_C E X YX4_canTell (d + 1) 0 0 (fun r h' => ∃ x : Int32, r = some (.int x) ∧ Q x h')) (a0 : Nat) (x1 : Int32) (x2 : Int32) (h : Hp) (v : vcX4_canTell_0 E d a0 x1 x2 h Q) : GG E X 3 0 0 0 [some (.ref a0), some (.int x1), some (.int x2)] [] h := by
  refine zg_iload_n (q := 1) C dX4_canTell_0 rfl rfl ?_
  refine zg_iconst (v := (-1)) (q := 2) C dX4_canTell_1 (by decide) rfl ?_
  refine zg_icmp_eq (t := 25) (q := 5) C dX4_canTell_2 (by decide) rfl (fun c => ?_) (fun c => ?_)
  · have v := v.1 c
    refine zg_iconst (v := 1) (q := 26) C dX4_canTell_25 (by decide) rfl ?_
    refine zg_goto (t := 30) C dX4_canTell_26 (by decide) ?_
    exact zg_zret C rfl dX4_canTell_30 ⟨Nat.le_refl _, Nat.le_refl _⟩ v.1 ⟨_, rfl, v.2⟩
  · have v := v.2 c
    refine zg_aload_n (q := 6) C dX4_canTell_5 rfl rfl ?_
    refine zg_iload_n (q := 7) C dX4_canTell_6 rfl rfl ?_
    refine zg_cV1I (q := 10) C mX4_isMan vX4_isMan lmX4_68 rfl (bX4).1 v.1 (Nat.le_of_ble_eq_true rfl) ⟨Nat.le_refl _, Nat.le_refl _⟩ dX4_canTell_7 rfl v.2 (fun r2 h1 v => ?_)
    refine zg_if_eq (t := 29) (q := 13) C dX4_canTell_10 (by decide) rfl (fun c => ?_) (fun c => ?_)
    · have v := v.1 c
      refine zg_iconst (v := 0) (q := 30) C dX4_canTell_29 (by decide) rfl ?_
      exact zg_zret C rfl dX4_canTell_30 ⟨Nat.le_refl _, Nat.le_refl _⟩ v.1 ⟨_, rfl, v.2⟩
    · have v := v.2 c
      refine zg_iload_n (q := 14) C dX4_canTell_13 rfl rfl ?_
      refine zg_if_lt (t := 29) (q := 17) C dX4_canTell_14 (by decide) rfl (fun c => ?_) (fun c => ?_)
      · have v := v.1 c
        refine zg_iconst (v := 0) (q := 30) C dX4_canTell_29 (by decide) rfl ?_
        exact zg_zret C rfl dX4_canTell_30 ⟨Nat.le_refl _, Nat.le_refl _⟩ v.1 ⟨_, rfl, v.2⟩
      · have v := v.2 c
        refine zg_iload_n (q := 18) C dX4_canTell_17 rfl rfl ?_
        refine zg_aload_n (q := 19) C dX4_canTell_18 rfl rfl ?_
        refine zg_get (j := 2) (q := 22) C bX4 (by decide) lkX4_29 dX4_canTell_19 rfl (okI.get v.1) ?_
        have v := v.2
        refine zg_icmp_ge (t := 29) (q := 25) C dX4_canTell_22 (by decide) rfl (fun c => ?_) (fun c => ?_)
        · have v := v.1 c
          refine zg_iconst (v := 0) (q := 30) C dX4_canTell_29 (by decide) rfl ?_
          exact zg_zret C rfl dX4_canTell_30 ⟨Nat.le_refl _, Nat.le_refl _⟩ v.1 ⟨_, rfl, v.2⟩
        · have v := v.2 c
          refine zg_iconst (v := 1) (q := 26) C dX4_canTell_25 (by decide) rfl ?_
          refine zg_goto (t := 30) C dX4_canTell_26 (by decide) ?_
          exact zg_zret C rfl dX4_canTell_30 ⟨Nat.le_refl _, Nat.le_refl _⟩ v.1 ⟨_, rfl, v.2⟩
theorem rnX4_canTell {E : Wd} {d : Nat} {a0 : Nat} {x1 : Int32} {x2 : Int32} {h : Hp} {Q : Int32 → Hp → Prop} (k : vcX4_canTell_0 E d a0 x1 x2 h Q) : OkI E YX4_canTell (d + 1) [.ref a0, .int x1, .int x2] h Q :=
  zz_body2 (r := 0) mX4_canTell (zc_a (zc_i (zc_i zc_n))) (Nat.le_of_ble_eq_true rfl) (fun X C => zsX4_canTell_0 C a0 x1 x2 h k)
def vcX4_indexOf_0 (E : Wd) (d : Nat) (a0 : Nat) (x1 : Int32) (x2 : Int32) (x3 : Int32) (x4 : Int32) (h : Hp) (Q : Int32 → Hp → Prop) : Prop :=
  isO h a0 4 ∧ OkI E YX4_weighed d [.ref a0, .int 0, .int x1] h (fun r2 h1 => isO h1 a0 4 ∧ OkI E YX4_weighed d [.ref a0, .int 1, .int x2] h1 (fun r4 h3 => isO h3 a0 4 ∧ OkI E YX4_weighed d [.ref a0, .int 2, .int x3] h3 (fun r6 h5 => Q (((r2 + r4) + r6) + x4) h5)))
set_option maxRecDepth 100000 in
set_option maxHeartbeats 4000000 in
theorem zsX4_indexOf_0 {E : Wd} {X : Mx} {d : Nat} {Q : Int32 → Hp → Prop} (C : zz_C E X YX4_indexOf (d + 1) 0 0 (fun r h' => ∃ x : Int32, r = some (.int x) ∧ Q x h')) (a0 : Nat) (x1 : Int32) (x2 : Int32) (x3 : Int32) (x4 : Int32) (h : Hp) (v : vcX4_indexOf_0 E d a0 x1 x2 x3 x4 h Q) : GG E X 5 0 0 0 [some (.ref a0), some (.int x1), some (.int x2), some (.int x3), some (.int x4)] [] h := by
  refine zg_aload_n (q := 1) C dX4_indexOf_0 rfl rfl ?_
  refine zg_iconst (v := 0) (q := 2) C dX4_indexOf_1 (by decide) rfl ?_
  refine zg_iload_n (q := 3) C dX4_indexOf_2 rfl rfl ?_
  refine zg_cV2I (q := 6) C mX4_weighed vX4_weighed lmX4_72 rfl (bX4).1 v.1 (Nat.le_of_ble_eq_true rfl) ⟨Nat.le_refl _, Nat.le_refl _⟩ dX4_indexOf_3 rfl v.2 (fun r2 h1 v => ?_)
  refine zg_aload_n (q := 7) C dX4_indexOf_6 rfl rfl ?_
  refine zg_iconst (v := 1) (q := 8) C dX4_indexOf_7 (by decide) rfl ?_
  refine zg_iload_n (q := 9) C dX4_indexOf_8 rfl rfl ?_
  refine zg_cV2I (q := 12) C mX4_weighed vX4_weighed lmX4_72 rfl (bX4).1 v.1 (Nat.le_of_ble_eq_true rfl) ⟨Nat.le_refl _, Nat.le_refl _⟩ dX4_indexOf_9 rfl v.2 (fun r4 h3 v => ?_)
  refine zg_iadd (q := 13) C dX4_indexOf_12 rfl ?_
  refine zg_aload_n (q := 14) C dX4_indexOf_13 rfl rfl ?_
  refine zg_iconst (v := 2) (q := 15) C dX4_indexOf_14 (by decide) rfl ?_
  refine zg_iload_n (q := 16) C dX4_indexOf_15 rfl rfl ?_
  refine zg_cV2I (q := 19) C mX4_weighed vX4_weighed lmX4_72 rfl (bX4).1 v.1 (Nat.le_of_ble_eq_true rfl) ⟨Nat.le_refl _, Nat.le_refl _⟩ dX4_indexOf_16 rfl v.2 (fun r6 h5 v => ?_)
  refine zg_iadd (q := 20) C dX4_indexOf_19 rfl ?_
  refine zg_iload (q := 22) C dX4_indexOf_20 rfl rfl ?_
  refine zg_iadd (q := 23) C dX4_indexOf_22 rfl ?_
  exact zg_iret C rfl dX4_indexOf_23 ⟨Nat.le_refl _, Nat.le_refl _⟩ ⟨_, rfl, v⟩
theorem rnX4_indexOf {E : Wd} {d : Nat} {a0 : Nat} {x1 : Int32} {x2 : Int32} {x3 : Int32} {x4 : Int32} {h : Hp} {Q : Int32 → Hp → Prop} (k : vcX4_indexOf_0 E d a0 x1 x2 x3 x4 h Q) : OkI E YX4_indexOf (d + 1) [.ref a0, .int x1, .int x2, .int x3, .int x4] h Q :=
  zz_body2 (r := 0) mX4_indexOf (zc_a (zc_i (zc_i (zc_i (zc_i zc_n))))) (Nat.le_of_ble_eq_true rfl) (fun X C => zsX4_indexOf_0 C a0 x1 x2 x3 x4 h k)
def vcX4_weighed_0 (E : Wd) (d : Nat) (a0 : Nat) (x1 : Int32) (x2 : Int32) (h : Hp) (Q : Int32 → Hp → Prop) : Prop :=
  (x1 < (0 : Int32) → Q 0 h) ∧ (¬ x1 < (0 : Int32) → okA h a0 4 12 ∧ okL E h (fA h a0 12) 0 ∧ (x1 < (lA h (fA h a0 12)) → okA h a0 4 12 ∧ okR E h (fA h a0 12) 0 x1 ∧ ((0 : Int32) ≤ x2 → Q ((gA h (fA h a0 12) x1) * x2) h) ∧ (¬ (0 : Int32) ≤ x2 → okI h a0 4 2 ∧ Q ((gA h (fA h a0 12) x1) * (fI h a0 2)) h)) ∧ (¬ x1 < (lA h (fA h a0 12)) → Q 0 h))
set_option maxRecDepth 100000 in
set_option maxHeartbeats 4000000 in
theorem zsX4_weighed_0 {E : Wd} {X : Mx} {d : Nat} {Q : Int32 → Hp → Prop} (C : zz_C E X YX4_weighed d 0 0 (fun r h' => ∃ x : Int32, r = some (.int x) ∧ Q x h')) (a0 : Nat) (x1 : Int32) (x2 : Int32) (h : Hp) (v : vcX4_weighed_0 E d a0 x1 x2 h Q) : GG E X 3 0 0 0 [some (.ref a0), some (.int x1), some (.int x2)] [] h := by
  refine zg_iload_n (q := 1) C dX4_weighed_0 rfl rfl ?_
  refine zg_if_lt (t := 13) (q := 4) C dX4_weighed_1 (by decide) rfl (fun c => ?_) (fun c => ?_)
  · have v := v.1 c
    refine zg_iconst (v := 0) (q := 14) C dX4_weighed_13 (by decide) rfl ?_
    exact zg_iret C rfl dX4_weighed_14 ⟨Nat.le_refl _, Nat.le_refl _⟩ ⟨_, rfl, v⟩
  · have v := v.2 c
    refine zg_iload_n (q := 5) C dX4_weighed_4 rfl rfl ?_
    refine zg_aload_n (q := 6) C dX4_weighed_5 rfl rfl ?_
    refine zg_get (j := 12) (q := 9) C bX4 (by decide) lkX4_15 dX4_weighed_6 rfl (okA.get v.1) ?_
    have v := v.2
    refine zg_alen (t := 0) (q := 10) C (by decide) dX4_weighed_9 rfl v.1 ?_
    have v := v.2
    refine zg_icmp_lt (t := 15) (q := 13) C dX4_weighed_10 (by decide) rfl (fun c => ?_) (fun c => ?_)
    · have v := v.1 c
      refine zg_aload_n (q := 16) C dX4_weighed_15 rfl rfl ?_
      refine zg_get (j := 12) (q := 19) C bX4 (by decide) lkX4_15 dX4_weighed_16 rfl (okA.get v.1) ?_
      have v := v.2
      refine zg_iload_n (q := 20) C dX4_weighed_19 rfl rfl ?_
      refine zg_iald (q := 21) C dX4_weighed_20 rfl v.1 ?_
      have v := v.2
      refine zg_iload_n (q := 22) C dX4_weighed_21 rfl rfl ?_
      refine zg_if_ge (t := 32) (q := 25) C dX4_weighed_22 (by decide) rfl (fun c => ?_) (fun c => ?_)
      · have v := v.1 c
        refine zg_iload_n (q := 33) C dX4_weighed_32 rfl rfl ?_
        refine zg_imul (q := 34) C dX4_weighed_33 rfl ?_
        exact zg_iret C rfl dX4_weighed_34 ⟨Nat.le_refl _, Nat.le_refl _⟩ ⟨_, rfl, v⟩
      · have v := v.2 c
        refine zg_aload_n (q := 26) C dX4_weighed_25 rfl rfl ?_
        refine zg_get (j := 2) (q := 29) C bX4 (by decide) lkX4_29 dX4_weighed_26 rfl (okI.get v.1) ?_
        have v := v.2
        refine zg_goto (t := 33) C dX4_weighed_29 (by decide) ?_
        refine zg_imul (q := 34) C dX4_weighed_33 rfl ?_
        exact zg_iret C rfl dX4_weighed_34 ⟨Nat.le_refl _, Nat.le_refl _⟩ ⟨_, rfl, v⟩
    · have v := v.2 c
      refine zg_iconst (v := 0) (q := 14) C dX4_weighed_13 (by decide) rfl ?_
      exact zg_iret C rfl dX4_weighed_14 ⟨Nat.le_refl _, Nat.le_refl _⟩ ⟨_, rfl, v⟩
theorem rnX4_weighed {E : Wd} {d : Nat} {a0 : Nat} {x1 : Int32} {x2 : Int32} {h : Hp} {Q : Int32 → Hp → Prop} (k : vcX4_weighed_0 E d a0 x1 x2 h Q) : OkI E YX4_weighed d [.ref a0, .int x1, .int x2] h Q :=
  zz_body2 (r := 0) mX4_weighed (zc_a (zc_i (zc_i zc_n))) (Nat.le_of_ble_eq_true rfl) (fun X C => zsX4_weighed_0 C a0 x1 x2 h k)
def vcX4_squareOf_0 (E : Wd) (d : Nat) (a0 : Nat) (x1 : Int32) (x2 : Int32) (h : Hp) (Q : Int32 → Hp → Prop) : Prop :=
  (x2 < (0 : Int32) → okI h a0 4 2 ∧ Q (fI h a0 2) h) ∧ (¬ x2 < (0 : Int32) → okA h a0 4 12 ∧ okL E h (fA h a0 12) 0 ∧ (x2 < (lA h (fA h a0 12)) → okA h a0 4 12 ∧ okR E h (fA h a0 12) 0 x2 ∧ ((gA h (fA h a0 12) x2) ≤ (0 : Int32) → okI h a0 4 2 ∧ Q (fI h a0 2) h) ∧ (¬ (gA h (fA h a0 12) x2) ≤ (0 : Int32) → okI h a0 4 9 ∧ ((fI h a0 9) ≤ (0 : Int32) → okI h a0 4 2 ∧ Q (fI h a0 2) h) ∧ (¬ (fI h a0 9) ≤ (0 : Int32) → (¬ (gA h (fA h a0 12) x2) = (0 : Int32)) ∧ okI h a0 4 9 ∧ (¬ (fI h a0 9) = (0 : Int32)) ∧ Q ((x1 / (gA h (fA h a0 12) x2)) - (x1 / (gA h (fA h a0 12) x2)) / (fI h a0 9) * (fI h a0 9)) h))) ∧ (¬ x2 < (lA h (fA h a0 12)) → okI h a0 4 2 ∧ Q (fI h a0 2) h))
set_option maxRecDepth 100000 in
set_option maxHeartbeats 4000000 in
theorem zsX4_squareOf_0 {E : Wd} {X : Mx} {d : Nat} {Q : Int32 → Hp → Prop} (C : zz_C E X YX4_squareOf d 0 0 (fun r h' => ∃ x : Int32, r = some (.int x) ∧ Q x h')) (a0 : Nat) (x1 : Int32) (x2 : Int32) (h : Hp) (v : vcX4_squareOf_0 E d a0 x1 x2 h Q) : GG E X 4 0 0 0 [some (.ref a0), some (.int x1), some (.int x2), none] [] h := by
  refine zg_iload_n (q := 1) C dX4_squareOf_0 rfl rfl ?_
  refine zg_if_lt (t := 13) (q := 4) C dX4_squareOf_1 (by decide) rfl (fun c => ?_) (fun c => ?_)
  · have v := v.1 c
    refine zg_aload_n (q := 14) C dX4_squareOf_13 rfl rfl ?_
    refine zg_get (j := 2) (q := 17) C bX4 (by decide) lkX4_29 dX4_squareOf_14 rfl (okI.get v.1) ?_
    have v := v.2
    exact zg_iret C rfl dX4_squareOf_17 ⟨Nat.le_refl _, Nat.le_refl _⟩ ⟨_, rfl, v⟩
  · have v := v.2 c
    refine zg_iload_n (q := 5) C dX4_squareOf_4 rfl rfl ?_
    refine zg_aload_n (q := 6) C dX4_squareOf_5 rfl rfl ?_
    refine zg_get (j := 12) (q := 9) C bX4 (by decide) lkX4_15 dX4_squareOf_6 rfl (okA.get v.1) ?_
    have v := v.2
    refine zg_alen (t := 0) (q := 10) C (by decide) dX4_squareOf_9 rfl v.1 ?_
    have v := v.2
    refine zg_icmp_lt (t := 18) (q := 13) C dX4_squareOf_10 (by decide) rfl (fun c => ?_) (fun c => ?_)
    · have v := v.1 c
      refine zg_aload_n (q := 19) C dX4_squareOf_18 rfl rfl ?_
      refine zg_get (j := 12) (q := 22) C bX4 (by decide) lkX4_15 dX4_squareOf_19 rfl (okA.get v.1) ?_
      have v := v.2
      refine zg_iload_n (q := 23) C dX4_squareOf_22 rfl rfl ?_
      refine zg_iald (q := 24) C dX4_squareOf_23 rfl v.1 ?_
      have v := v.2
      refine zg_istore_n (q := 25) C dX4_squareOf_24 (by decide) rfl ?_
      refine zg_iload_n (q := 26) C dX4_squareOf_25 rfl rfl ?_
      refine zg_if_le (t := 47) (q := 29) C dX4_squareOf_26 (by decide) rfl (fun c => ?_) (fun c => ?_)
      · have v := v.1 c
        refine zg_aload_n (q := 48) C dX4_squareOf_47 rfl rfl ?_
        refine zg_get (j := 2) (q := 51) C bX4 (by decide) lkX4_29 dX4_squareOf_48 rfl (okI.get v.1) ?_
        have v := v.2
        exact zg_iret C rfl dX4_squareOf_51 ⟨Nat.le_refl _, Nat.le_refl _⟩ ⟨_, rfl, v⟩
      · have v := v.2 c
        refine zg_aload_n (q := 30) C dX4_squareOf_29 rfl rfl ?_
        refine zg_get (j := 9) (q := 33) C bX4 (by decide) lkX4_55 dX4_squareOf_30 rfl (okI.get v.1) ?_
        have v := v.2
        refine zg_if_le (t := 47) (q := 36) C dX4_squareOf_33 (by decide) rfl (fun c => ?_) (fun c => ?_)
        · have v := v.1 c
          refine zg_aload_n (q := 48) C dX4_squareOf_47 rfl rfl ?_
          refine zg_get (j := 2) (q := 51) C bX4 (by decide) lkX4_29 dX4_squareOf_48 rfl (okI.get v.1) ?_
          have v := v.2
          exact zg_iret C rfl dX4_squareOf_51 ⟨Nat.le_refl _, Nat.le_refl _⟩ ⟨_, rfl, v⟩
        · have v := v.2 c
          refine zg_iload_n (q := 37) C dX4_squareOf_36 rfl rfl ?_
          refine zg_iload_n (q := 38) C dX4_squareOf_37 rfl rfl ?_
          refine zg_idiv (q := 39) C dX4_squareOf_38 v.1 rfl ?_
          have v := v.2
          refine zg_aload_n (q := 40) C dX4_squareOf_39 rfl rfl ?_
          refine zg_get (j := 9) (q := 43) C bX4 (by decide) lkX4_55 dX4_squareOf_40 rfl (okI.get v.1) ?_
          have v := v.2
          refine zg_irem (q := 44) C dX4_squareOf_43 v.1 rfl ?_
          have v := v.2
          refine zg_goto (t := 51) C dX4_squareOf_44 (by decide) ?_
          exact zg_iret C rfl dX4_squareOf_51 ⟨Nat.le_refl _, Nat.le_refl _⟩ ⟨_, rfl, v⟩
    · have v := v.2 c
      refine zg_aload_n (q := 14) C dX4_squareOf_13 rfl rfl ?_
      refine zg_get (j := 2) (q := 17) C bX4 (by decide) lkX4_29 dX4_squareOf_14 rfl (okI.get v.1) ?_
      have v := v.2
      exact zg_iret C rfl dX4_squareOf_17 ⟨Nat.le_refl _, Nat.le_refl _⟩ ⟨_, rfl, v⟩
theorem rnX4_squareOf {E : Wd} {d : Nat} {a0 : Nat} {x1 : Int32} {x2 : Int32} {h : Hp} {Q : Int32 → Hp → Prop} (k : vcX4_squareOf_0 E d a0 x1 x2 h Q) : OkI E YX4_squareOf d [.ref a0, .int x1, .int x2] h Q :=
  zz_body2 (r := 1) mX4_squareOf (zc_a (zc_i (zc_i zc_n))) (Nat.le_of_ble_eq_true rfl) (fun X C => zsX4_squareOf_0 C a0 x1 x2 h k)
def vcX4_changedMan_0 (E : Wd) (d : Nat) (K7 : Nat → Int32 → Int32 → Int32 → Int32 → Hp → Prop) (a0 : Nat) (x1 : Int32) (x2 : Int32) (x3 : Int32) (h : Hp) (Q : Int32 → Hp → Prop) : Prop :=
  isO h a0 4 ∧ OkI E YX4_firstMan d [.ref a0, .int x3] h (fun r2 h1 => K7 a0 x1 x2 x3 r2 h1)
def vcX4_changedMan_7 (E : Wd) (d : Nat) (K7 : Nat → Int32 → Int32 → Int32 → Int32 → Hp → Prop) (a0 : Nat) (x1 : Int32) (x2 : Int32) (x3 : Int32) (x4 : Int32) (h : Hp) (Q : Int32 → Hp → Prop) : Prop :=
  isO h a0 4 ∧ OkI E YX4_endOfMen d [.ref a0, .int x3] h (fun r2 h1 => (r2 ≤ x4 → Q ((-1)) h1) ∧ (¬ r2 ≤ x4 → isO h1 a0 4 ∧ OkI E YX4_squareOf d [.ref a0, .int x1, .int x4] h1 (fun r4 h3 => isO h3 a0 4 ∧ OkI E YX4_squareOf d [.ref a0, .int x2, .int x4] h3 (fun r6 h5 => (r4 = r6 → K7 a0 x1 x2 x3 (x4 + 1) h5) ∧ (¬ r4 = r6 → Q x4 h5)))))
def zkX4_changedMan_7 (E : Wd) (X : Mx) : Nat → Int32 → Int32 → Int32 → Int32 → Hp → Prop := fun a0 x1 x2 x3 x4 h => GG E X 5 0 0 7 [some (.ref a0), some (.int x1), some (.int x2), some (.int x3), some (.int x4)] [] h
set_option maxRecDepth 100000 in
set_option maxHeartbeats 4000000 in
theorem zsX4_changedMan_0 {E : Wd} {X : Mx} {d : Nat} {Q : Int32 → Hp → Prop} (C : zz_C E X YX4_changedMan (d + 1) 0 0 (fun r h' => ∃ x : Int32, r = some (.int x) ∧ Q x h')) (a0 : Nat) (x1 : Int32) (x2 : Int32) (x3 : Int32) (h : Hp) (v : vcX4_changedMan_0 E d (zkX4_changedMan_7 E X) a0 x1 x2 x3 h Q) : GG E X 5 0 0 0 [some (.ref a0), some (.int x1), some (.int x2), some (.int x3), none] [] h := by
  refine zg_aload_n (q := 1) C dX4_changedMan_0 rfl rfl ?_
  refine zg_iload_n (q := 2) C dX4_changedMan_1 rfl rfl ?_
  refine zg_cV1I (q := 5) C mX4_firstMan vX4_firstMan lmX4_75 rfl (bX4).1 v.1 (Nat.le_of_ble_eq_true rfl) ⟨Nat.le_refl _, Nat.le_refl _⟩ dX4_changedMan_2 rfl v.2 (fun r2 h1 v => ?_)
  refine zg_istore (q := 7) C dX4_changedMan_5 (by decide) rfl ?_
  exact zg_mask [true, true, true, true, true] v
set_option maxRecDepth 100000 in
set_option maxHeartbeats 4000000 in
theorem zsX4_changedMan_7 {E : Wd} {X : Mx} {d : Nat} {Q : Int32 → Hp → Prop} (C : zz_C E X YX4_changedMan (d + 1) 0 0 (fun r h' => ∃ x : Int32, r = some (.int x) ∧ Q x h')) (a0 : Nat) (x1 : Int32) (x2 : Int32) (x3 : Int32) (x4 : Int32) (h : Hp) (v : vcX4_changedMan_7 E d (zkX4_changedMan_7 E X) a0 x1 x2 x3 x4 h Q) : GG E X 5 0 0 7 [some (.ref a0), some (.int x1), some (.int x2), some (.int x3), some (.int x4)] [] h := by
  refine zg_iload (q := 9) C dX4_changedMan_7 rfl rfl ?_
  refine zg_aload_n (q := 10) C dX4_changedMan_9 rfl rfl ?_
  refine zg_iload_n (q := 11) C dX4_changedMan_10 rfl rfl ?_
  refine zg_cV1I (q := 14) C mX4_endOfMen vX4_endOfMen lmX4_79 rfl (bX4).1 v.1 (Nat.le_of_ble_eq_true rfl) ⟨Nat.le_refl _, Nat.le_refl _⟩ dX4_changedMan_11 rfl v.2 (fun r2 h1 v => ?_)
  refine zg_icmp_ge (t := 43) (q := 17) C dX4_changedMan_14 (by decide) rfl (fun c => ?_) (fun c => ?_)
  · have v := v.1 c
    refine zg_iconst (v := (-1)) (q := 44) C dX4_changedMan_43 (by decide) rfl ?_
    exact zg_iret C rfl dX4_changedMan_44 ⟨Nat.le_refl _, Nat.le_refl _⟩ ⟨_, rfl, v⟩
  · have v := v.2 c
    refine zg_aload_n (q := 18) C dX4_changedMan_17 rfl rfl ?_
    refine zg_iload_n (q := 19) C dX4_changedMan_18 rfl rfl ?_
    refine zg_iload (q := 21) C dX4_changedMan_19 rfl rfl ?_
    refine zg_cV2I (q := 24) C mX4_squareOf vX4_squareOf lmX4_82 rfl (bX4).1 v.1 (Nat.le_of_ble_eq_true rfl) ⟨Nat.le_refl _, Nat.le_refl _⟩ dX4_changedMan_21 rfl v.2 (fun r4 h3 v => ?_)
    refine zg_aload_n (q := 25) C dX4_changedMan_24 rfl rfl ?_
    refine zg_iload_n (q := 26) C dX4_changedMan_25 rfl rfl ?_
    refine zg_iload (q := 28) C dX4_changedMan_26 rfl rfl ?_
    refine zg_cV2I (q := 31) C mX4_squareOf vX4_squareOf lmX4_82 rfl (bX4).1 v.1 (Nat.le_of_ble_eq_true rfl) ⟨Nat.le_refl _, Nat.le_refl _⟩ dX4_changedMan_28 rfl v.2 (fun r6 h5 v => ?_)
    refine zg_icmp_eq (t := 37) (q := 34) C dX4_changedMan_31 (by decide) rfl (fun c => ?_) (fun c => ?_)
    · have v := v.1 c
      refine zg_iinc (v := 1) (q := 40) C dX4_changedMan_37 rfl (by decide) (by decide) rfl ?_
      refine zg_goto (t := 7) C dX4_changedMan_40 (by decide) ?_
      exact zg_mask [true, true, true, true, true] v
    · have v := v.2 c
      refine zg_iload (q := 36) C dX4_changedMan_34 rfl rfl ?_
      exact zg_iret C rfl dX4_changedMan_36 ⟨Nat.le_refl _, Nat.le_refl _⟩ ⟨_, rfl, v⟩
theorem rnX4_changedMan {E : Wd} {d : Nat} {a0 : Nat} {x1 : Int32} {x2 : Int32} {x3 : Int32} {h : Hp} {Q : Int32 → Hp → Prop} (k : ∀ (K7 : Nat → Int32 → Int32 → Int32 → Int32 → Hp → Prop),(∀ (a0 : Nat) (x1 : Int32) (x2 : Int32) (x3 : Int32) (x4 : Int32) h, vcX4_changedMan_7 E d K7 a0 x1 x2 x3 x4 h Q → K7 a0 x1 x2 x3 x4 h) → vcX4_changedMan_0 E d K7 a0 x1 x2 x3 h Q) : OkI E YX4_changedMan (d + 1) [.ref a0, .int x1, .int x2, .int x3] h Q :=
  zz_body2 (r := 1) mX4_changedMan (zc_a (zc_i (zc_i (zc_i zc_n)))) (Nat.le_of_ble_eq_true rfl) (fun X C => zsX4_changedMan_0 C a0 x1 x2 x3 h (k (zkX4_changedMan_7 E X) (fun a0 x1 x2 x3 x4 h v => zsX4_changedMan_7 C a0 x1 x2 x3 x4 h v)))
def vcX4_hasPawns_0 (E : Wd) (d : Nat) (K2 : Nat → Int32 → Hp → Prop) (a0 : Nat) (h : Hp) (Q : Int32 → Hp → Prop) : Prop :=
  K2 a0 0 h
def vcX4_hasPawns_2 (E : Wd) (d : Nat) (K2 : Nat → Int32 → Hp → Prop) (a0 : Nat) (x1 : Int32) (h : Hp) (Q : Int32 → Hp → Prop) : Prop :=
  okI h a0 4 5 ∧ ((fI h a0 5) ≤ x1 → mB 0 ∧ Q 0 h) ∧ (¬ (fI h a0 5) ≤ x1 → isO h a0 4 ∧ OkI E YX4_kindOf d [.ref a0, .int x1] h (fun r2 h1 => (¬ r2 = (9 : Int32) → K2 a0 (x1 + 1) h1) ∧ (r2 = (9 : Int32) → mB 1 ∧ Q 1 h1)))
def zkX4_hasPawns_2 (E : Wd) (X : Mx) : Nat → Int32 → Hp → Prop := fun a0 x1 h => GG E X 2 0 0 2 [some (.ref a0), some (.int x1)] [] h
set_option maxRecDepth 100000 in
set_option maxHeartbeats 4000000 in
theorem zsX4_hasPawns_0 {E : Wd} {X : Mx} {d : Nat} {Q : Int32 → Hp → Prop} (C : zz_C E X YX4_hasPawns (d + 1) 0 0 (fun r h' => ∃ x : Int32, r = some (.int x) ∧ Q x h')) (a0 : Nat) (h : Hp) (v : vcX4_hasPawns_0 E d (zkX4_hasPawns_2 E X) a0 h Q) : GG E X 2 0 0 0 [some (.ref a0), none] [] h := by
  refine zg_iconst (v := 0) (q := 1) C dX4_hasPawns_0 (by decide) rfl ?_
  refine zg_istore_n (q := 2) C dX4_hasPawns_1 (by decide) rfl ?_
  exact zg_mask [true, true] v
set_option maxRecDepth 100000 in
set_option maxHeartbeats 4000000 in
theorem zsX4_hasPawns_2 {E : Wd} {X : Mx} {d : Nat} {Q : Int32 → Hp → Prop} (C : zz_C E X YX4_hasPawns (d + 1) 0 0 (fun r h' => ∃ x : Int32, r = some (.int x) ∧ Q x h')) (a0 : Nat) (x1 : Int32) (h : Hp) (v : vcX4_hasPawns_2 E d (zkX4_hasPawns_2 E X) a0 x1 h Q) : GG E X 2 0 0 2 [some (.ref a0), some (.int x1)] [] h := by
  refine zg_iload_n (q := 3) C dX4_hasPawns_2 rfl rfl ?_
  refine zg_aload_n (q := 4) C dX4_hasPawns_3 rfl rfl ?_
  refine zg_get (j := 5) (q := 7) C bX4 (by decide) lkX4_42 dX4_hasPawns_4 rfl (okI.get v.1) ?_
  have v := v.2
  refine zg_icmp_ge (t := 28) (q := 10) C dX4_hasPawns_7 (by decide) rfl (fun c => ?_) (fun c => ?_)
  · have v := v.1 c
    refine zg_iconst (v := 0) (q := 29) C dX4_hasPawns_28 (by decide) rfl ?_
    exact zg_zret C rfl dX4_hasPawns_29 ⟨Nat.le_refl _, Nat.le_refl _⟩ v.1 ⟨_, rfl, v.2⟩
  · have v := v.2 c
    refine zg_aload_n (q := 11) C dX4_hasPawns_10 rfl rfl ?_
    refine zg_iload_n (q := 12) C dX4_hasPawns_11 rfl rfl ?_
    refine zg_cV1I (q := 15) C mX4_kindOf vX4_kindOf lmX4_85 rfl (bX4).1 v.1 (Nat.le_of_ble_eq_true rfl) ⟨Nat.le_refl _, Nat.le_refl _⟩ dX4_hasPawns_12 rfl v.2 (fun r2 h1 v => ?_)
    refine zg_bipush (v := 9) (q := 17) C dX4_hasPawns_15 (by decide) rfl ?_
    refine zg_icmp_ne (t := 22) (q := 20) C dX4_hasPawns_17 (by decide) rfl (fun c => ?_) (fun c => ?_)
    · have v := v.1 c
      refine zg_iinc (v := 1) (q := 25) C dX4_hasPawns_22 rfl (by decide) (by decide) rfl ?_
      refine zg_goto (t := 2) C dX4_hasPawns_25 (by decide) ?_
      exact zg_mask [true, true] v
    · have v := v.2 c
      refine zg_iconst (v := 1) (q := 21) C dX4_hasPawns_20 (by decide) rfl ?_
      exact zg_zret C rfl dX4_hasPawns_21 ⟨Nat.le_refl _, Nat.le_refl _⟩ v.1 ⟨_, rfl, v.2⟩
theorem rnX4_hasPawns {E : Wd} {d : Nat} {a0 : Nat} {h : Hp} {Q : Int32 → Hp → Prop} (k : ∀ (K2 : Nat → Int32 → Hp → Prop),(∀ (a0 : Nat) (x1 : Int32) h, vcX4_hasPawns_2 E d K2 a0 x1 h Q → K2 a0 x1 h) → vcX4_hasPawns_0 E d K2 a0 h Q) : OkI E YX4_hasPawns (d + 1) [.ref a0] h Q :=
  zz_body2 (r := 1) mX4_hasPawns (zc_a zc_n) (Nat.le_of_ble_eq_true rfl) (fun X C => zsX4_hasPawns_0 C a0 h (k (zkX4_hasPawns_2 E X) (fun a0 x1 h v => zsX4_hasPawns_2 C a0 x1 h v)))
