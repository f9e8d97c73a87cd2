def vcX2_init_0 (E : Wd) (d : Nat) (mc ms : Nat) (K40 : Nat → Nat → Int32 → Hp → Prop) (K55 : Nat → Nat → Int32 → Int32 → Hp → Prop) (K72 : Nat → Nat → Int32 → Int32 → Int32 → Hp → Prop) (a0 : Nat) (a1 : Nat) (h : Hp) (Q : Hp → Prop) : Prop :=
  (1 ≤ mc ∧ 432 ≤ ms) ∧ ∀ h1, h1 = nA E h 0 432 → okP h1 a0 2 0 ∧ ∀ h3, h3 = pF h1 a0 0 (.ref (h.1)) → (2 ≤ mc ∧ 864 ≤ ms) ∧ ∀ h4, h4 = nA E h3 0 432 → okP h4 a0 2 1 ∧ ∀ h6, h6 = pF h4 a0 1 (.ref (h3.1)) → okA h6 a0 2 0 ∧ OkV E YJ7_fill_53178 d [.ref (fA h6 a0 0), .int ((-1))] h6 (fun h7 => okA h7 a0 2 1 ∧ OkV E YJ7_fill_53178 d [.ref (fA h7 a0 1), .int ((-1))] h7 (fun h8 => K40 a0 a1 0 h8))
def vcX2_init_40 (E : Wd) (d : Nat) (mc ms : Nat) (K40 : Nat → Nat → Int32 → Hp → Prop) (K55 : Nat → Nat → Int32 → Int32 → Hp → Prop) (K72 : Nat → Nat → Int32 → Int32 → Int32 → Hp → Prop) (a0 : Nat) (a1 : Nat) (x2 : Int32) (h : Hp) (Q : Hp → Prop) : Prop :=
  (2 ≤ mc ∧ 864 ≤ ms) ∧ okI h a1 4 5 ∧ ((fI h a1 5) ≤ x2 → Q h) ∧ (¬ (fI h a1 5) ≤ x2 → ((3 : Int32) ≤ x2 → Q h) ∧ (¬ (3 : Int32) ≤ x2 → K55 a0 a1 x2 0 h))
def vcX2_init_55 (E : Wd) (d : Nat) (mc ms : Nat) (K40 : Nat → Nat → Int32 → Hp → Prop) (K55 : Nat → Nat → Int32 → Int32 → Hp → Prop) (K72 : Nat → Nat → Int32 → Int32 → Int32 → Hp → Prop) (a0 : Nat) (a1 : Nat) (x2 : Int32) (x3 : Int32) (h : Hp) (Q : Hp → Prop) : Prop :=
  (2 ≤ mc ∧ 864 ≤ ms) ∧ okI h a1 4 2 ∧ ((fI h a1 2) ≤ x3 → K40 a0 a1 (x2 + 1) h) ∧ (¬ (fI h a1 2) ≤ x3 → ((12 : Int32) ≤ x3 → K40 a0 a1 (x2 + 1) h) ∧ (¬ (12 : Int32) ≤ x3 → K72 a0 a1 x2 x3 0 h))
def vcX2_init_72 (E : Wd) (d : Nat) (mc ms : Nat) (K40 : Nat → Nat → Int32 → Hp → Prop) (K55 : Nat → Nat → Int32 → Int32 → Hp → Prop) (K72 : Nat → Nat → Int32 → Int32 → Int32 → Hp → Prop) (a0 : Nat) (a1 : Nat) (x2 : Int32) (x3 : Int32) (x4 : Int32) (h : Hp) (Q : Hp → Prop) : Prop :=
  (2 ≤ mc ∧ 864 ≤ ms) ∧ okI h a1 4 2 ∧ ((fI h a1 2) ≤ x4 → K55 a0 a1 x2 (x3 + 1) h) ∧ (¬ (fI h a1 2) ≤ x4 → ((12 : Int32) ≤ x4 → K55 a0 a1 x2 (x3 + 1) h) ∧ (¬ (12 : Int32) ≤ x4 → okA h a0 2 0 ∧ OkI E YX2_way d [.ref a1, .int x2, .int x3, .int x4, .int 0] h (fun r2 h1 => okR E h1 (fA h a0 0) 0 (((x2 * (144 : Int32)) + (x3 * (12 : Int32))) + x4) ∧ ∀ h3, h3 = sA h1 (fA h a0 0) (((x2 * (144 : Int32)) + (x3 * (12 : Int32))) + x4) r2 → okA h3 a0 2 1 ∧ OkI E YX2_way d [.ref a1, .int x2, .int x3, .int x4, .int 1] h3 (fun r5 h4 => okR E h4 (fA h3 a0 1) 0 (((x2 * (144 : Int32)) + (x3 * (12 : Int32))) + x4) ∧ ∀ h6, h6 = sA h4 (fA h3 a0 1) (((x2 * (144 : Int32)) + (x3 * (12 : Int32))) + x4) r5 → K72 a0 a1 x2 x3 (x4 + 1) h6))))
def zkX2_init_40 (E : Wd) (X : Mx) : Nat → Nat → Int32 → Hp → Prop := fun a0 a1 x2 h => GG E X 6 2 864 40 [some (.ref a0), some (.ref a1), some (.int x2), none, none, none] [] h
def zkX2_init_55 (E : Wd) (X : Mx) : Nat → Nat → Int32 → Int32 → Hp → Prop := fun a0 a1 x2 x3 h => GG E X 6 2 864 55 [some (.ref a0), some (.ref a1), some (.int x2), some (.int x3), none, none] [] h
def zkX2_init_72 (E : Wd) (X : Mx) : Nat → Nat → Int32 → Int32 → Int32 → Hp → Prop := fun a0 a1 x2 x3 x4 h => GG E X 6 2 864 72 [some (.ref a0), some (.ref a1), some (.int x2), some (.int x3), some (.int x4), none] [] h
set_option maxRecDepth 100000 in
set_option maxHeartbeats 4000000 in
theorem zsX2_init_0 {E : Wd} {X : Mx} {d mc ms : Nat} {Q : Hp → Prop} (C : zz_C E X YX2_init (d + 1) mc ms (fun r h' => r = none ∧ Q h')) (a0 : Nat) (a1 : Nat) (h : Hp) (v : vcX2_init_0 E d mc ms (zkX2_init_40 E X) (zkX2_init_55 E X) (zkX2_init_72 E X) a0 a1 h Q) : GG E X 6 0 0 0 [some (.ref a0), some (.ref a1), none, none, none, none] [] h := by
  refine zg_aload_n (q := 1) C dX2_init_0 rfl rfl ?_
  refine zg_objInit (q := 4) C oiX2 rfl (Nat.le_add_left _ _) (Nat.le_of_ble_eq_true rfl) dX2_init_1 rfl ?_
  refine zg_aload_n (q := 5) C dX2_init_4 rfl rfl ?_
  refine zg_sipush (v := 432) (q := 8) C dX2_init_5 (by decide) rfl ?_
  refine zg_newI (m := 432) (q := 10) C ar0 dX2_init_8 rfl (by decide) (by decide) (by decide) v.1 ?_
  have c2 := v.1
  have v := v.2 _ rfl
  refine zg_putF (j := 0) (q := 13) C bX2 (by decide) lkX2_11 dX2_init_10 rfl rfl rfl rfl v.1 rfl rfl ?_
  have v := v.2 _ rfl
  refine zg_aload_n (q := 14) C dX2_init_13 rfl rfl ?_
  refine zg_sipush (v := 432) (q := 17) C dX2_init_14 (by decide) rfl ?_
  refine zg_newI (m := 432) (q := 19) C ar0 dX2_init_17 rfl (by decide) (by decide) (by decide) v.1 ?_
  have c5 := v.1
  have v := v.2 _ rfl
  refine zg_putF (j := 1) (q := 22) C bX2 (by decide) lkX2_15 dX2_init_19 rfl rfl rfl rfl v.1 rfl rfl ?_
  have v := v.2 _ rfl
  refine zg_aload_n (q := 23) C dX2_init_22 rfl rfl ?_
  refine zg_get (j := 0) (q := 26) C bX2 (by decide) lkX2_11 dX2_init_23 rfl (okA.get v.1) ?_
  have v := v.2
  refine zg_iconst (v := (-1)) (q := 27) C dX2_init_26 (by decide) rfl ?_
  refine zg_cS2V (q := 30) C mJ7_fill_53178 tJ7_fill_53178 lmX2_18 rfl (Nat.le_of_ble_eq_true rfl) c5 dX2_init_27 rfl v (fun h7 v => ?_)
  refine zg_aload_n (q := 31) C dX2_init_30 rfl rfl ?_
  refine zg_get (j := 1) (q := 34) C bX2 (by decide) lkX2_15 dX2_init_31 rfl (okA.get v.1) ?_
  have v := v.2
  refine zg_iconst (v := (-1)) (q := 35) C dX2_init_34 (by decide) rfl ?_
  refine zg_cS2V (q := 38) C mJ7_fill_53178 tJ7_fill_53178 lmX2_18 rfl (Nat.le_of_ble_eq_true rfl) c5 dX2_init_35 rfl v (fun h8 v => ?_)
  refine zg_iconst (v := 0) (q := 39) C dX2_init_38 (by decide) rfl ?_
  refine zg_istore_n (q := 40) C dX2_init_39 (by decide) rfl ?_
  exact zg_mask [true, true, true, false, false, false] v
set_option maxRecDepth 100000 in
set_option maxHeartbeats 4000000 in
theorem zsX2_init_40 {E : Wd} {X : Mx} {d mc ms : Nat} {Q : Hp → Prop} (C : zz_C E X YX2_init (d + 1) mc ms (fun r h' => r = none ∧ Q h')) (a0 : Nat) (a1 : Nat) (x2 : Int32) (h : Hp) (v : vcX2_init_40 E d mc ms (zkX2_init_40 E X) (zkX2_init_55 E X) (zkX2_init_72 E X) a0 a1 x2 h Q) : GG E X 6 2 864 40 [some (.ref a0), some (.ref a1), some (.int x2), none, none, none] [] h := by
  have hc := v.1
  have v := v.2
  refine zg_iload_n (q := 41) C dX2_init_40 rfl rfl ?_
  refine zg_aload_n (q := 42) C dX2_init_41 rfl rfl ?_
  refine zg_getN (j := 5) (q := 45) C bX4 (by decide) lkX2_24 dX2_init_42 rfl (okI.get v.1) ?_
  have v := v.2
  refine zg_icmp_ge (t := 153) (q := 48) C dX2_init_45 (by decide) rfl (fun c => ?_) (fun c => ?_)
  · have v := v.1 c
    exact zg_vret C rfl dX2_init_153 hc ⟨rfl, v⟩
  · have v := v.2 c
    refine zg_iload_n (q := 49) C dX2_init_48 rfl rfl ?_
    refine zg_iconst (v := 3) (q := 50) C dX2_init_49 (by decide) rfl ?_
    refine zg_icmp_ge (t := 153) (q := 53) C dX2_init_50 (by decide) rfl (fun c => ?_) (fun c => ?_)
    · have v := v.1 c
      exact zg_vret C rfl dX2_init_153 hc ⟨rfl, v⟩
    · have v := v.2 c
      refine zg_iconst (v := 0) (q := 54) C dX2_init_53 (by decide) rfl ?_
      refine zg_istore_n (q := 55) C dX2_init_54 (by decide) rfl ?_
      exact zg_mask [true, true, true, true, false, false] v
set_option maxRecDepth 100000 in
set_option maxHeartbeats 4000000 in
theorem zsX2_init_55 {E : Wd} {X : Mx} {d mc ms : Nat} {Q : Hp → Prop} (C : zz_C E X YX2_init (d + 1) mc ms (fun r h' => r = none ∧ Q h')) (a0 : Nat) (a1 : Nat) (x2 : Int32) (x3 : Int32) (h : Hp) (v : vcX2_init_55 E d mc ms (zkX2_init_40 E X) (zkX2_init_55 E X) (zkX2_init_72 E X) a0 a1 x2 x3 h Q) : GG E X 6 2 864 55 [some (.ref a0), some (.ref a1), some (.int x2), some (.int x3), none, none] [] h := by
  have hc := v.1
  have v := v.2
  refine zg_iload_n (q := 56) C dX2_init_55 rfl rfl ?_
  refine zg_aload_n (q := 57) C dX2_init_56 rfl rfl ?_
  refine zg_getN (j := 2) (q := 60) C bX4 (by decide) lkX2_30 dX2_init_57 rfl (okI.get v.1) ?_
  have v := v.2
  refine zg_icmp_ge (t := 147) (q := 63) C dX2_init_60 (by decide) rfl (fun c => ?_) (fun c => ?_)
  · have v := v.1 c
    refine zg_iinc (v := 1) (q := 150) C dX2_init_147 rfl (by decide) (by decide) rfl ?_
    refine zg_goto (t := 40) C dX2_init_150 (by decide) ?_
    exact zg_mask [true, true, true, false, false, false] v
  · have v := v.2 c
    refine zg_iload_n (q := 64) C dX2_init_63 rfl rfl ?_
    refine zg_bipush (v := 12) (q := 66) C dX2_init_64 (by decide) rfl ?_
    refine zg_icmp_ge (t := 147) (q := 69) C dX2_init_66 (by decide) rfl (fun c => ?_) (fun c => ?_)
    · have v := v.1 c
      refine zg_iinc (v := 1) (q := 150) C dX2_init_147 rfl (by decide) (by decide) rfl ?_
      refine zg_goto (t := 40) C dX2_init_150 (by decide) ?_
      exact zg_mask [true, true, true, false, false, false] v
    · have v := v.2 c
      refine zg_iconst (v := 0) (q := 70) C dX2_init_69 (by decide) rfl ?_
      refine zg_istore (q := 72) C dX2_init_70 (by decide) rfl ?_
      exact zg_mask [true, true, true, true, true, false] v
set_option maxRecDepth 100000 in
set_option maxHeartbeats 4000000 in
theorem zsX2_init_72 {E : Wd} {X : Mx} {d mc ms : Nat} {Q : Hp → Prop} (C : zz_C E X YX2_init (d + 1) mc ms (fun r h' => r = none ∧ Q h')) (a0 : Nat) (a1 : Nat) (x2 : Int32) (x3 : Int32) (x4 : Int32) (h : Hp) (v : vcX2_init_72 E d mc ms (zkX2_init_40 E X) (zkX2_init_55 E X) (zkX2_init_72 E X) a0 a1 x2 x3 x4 h Q) : GG E X 6 2 864 72 [some (.ref a0), some (.ref a1), some (.int x2), some (.int x3), some (.int x4), none] [] h := by
  have hc := v.1
  have v := v.2
  refine zg_iload (q := 74) C dX2_init_72 rfl rfl ?_
  refine zg_aload_n (q := 75) C dX2_init_74 rfl rfl ?_
  refine zg_getN (j := 2) (q := 78) C bX4 (by decide) lkX2_30 dX2_init_75 rfl (okI.get v.1) ?_
  have v := v.2
  refine zg_icmp_ge (t := 141) (q := 81) C dX2_init_78 (by decide) rfl (fun c => ?_) (fun c => ?_)
  · have v := v.1 c
    refine zg_iinc (v := 1) (q := 144) C dX2_init_141 rfl (by decide) (by decide) rfl ?_
    refine zg_goto (t := 55) C dX2_init_144 (by decide) ?_
    exact zg_mask [true, true, true, true, false, false] v
  · have v := v.2 c
    refine zg_iload (q := 83) C dX2_init_81 rfl rfl ?_
    refine zg_bipush (v := 12) (q := 85) C dX2_init_83 (by decide) rfl ?_
    refine zg_icmp_ge (t := 141) (q := 88) C dX2_init_85 (by decide) rfl (fun c => ?_) (fun c => ?_)
    · have v := v.1 c
      refine zg_iinc (v := 1) (q := 144) C dX2_init_141 rfl (by decide) (by decide) rfl ?_
      refine zg_goto (t := 55) C dX2_init_144 (by decide) ?_
      exact zg_mask [true, true, true, true, false, false] v
    · have v := v.2 c
      refine zg_iload_n (q := 89) C dX2_init_88 rfl rfl ?_
      refine zg_sipush (v := 144) (q := 92) C dX2_init_89 (by decide) rfl ?_
      refine zg_imul (q := 93) C dX2_init_92 rfl ?_
      refine zg_iload_n (q := 94) C dX2_init_93 rfl rfl ?_
      refine zg_bipush (v := 12) (q := 96) C dX2_init_94 (by decide) rfl ?_
      refine zg_imul (q := 97) C dX2_init_96 rfl ?_
      refine zg_iadd (q := 98) C dX2_init_97 rfl ?_
      refine zg_iload (q := 100) C dX2_init_98 rfl rfl ?_
      refine zg_iadd (q := 101) C dX2_init_100 rfl ?_
      refine zg_istore (q := 103) C dX2_init_101 (by decide) rfl ?_
      refine zg_aload_n (q := 104) C dX2_init_103 rfl rfl ?_
      refine zg_get (j := 0) (q := 107) C bX2 (by decide) lkX2_11 dX2_init_104 rfl (okA.get v.1) ?_
      have v := v.2
      refine zg_iload (q := 109) C dX2_init_107 rfl rfl ?_
      refine zg_aload_n (q := 110) C dX2_init_109 rfl rfl ?_
      refine zg_iload_n (q := 111) C dX2_init_110 rfl rfl ?_
      refine zg_iload_n (q := 112) C dX2_init_111 rfl rfl ?_
      refine zg_iload (q := 114) C dX2_init_112 rfl rfl ?_
      refine zg_iconst (v := 0) (q := 115) C dX2_init_114 (by decide) rfl ?_
      refine zg_cS5I (q := 118) C mX2_way tX2_way lmX2_33 rfl (Nat.le_of_ble_eq_true rfl) hc dX2_init_115 rfl v (fun r2 h1 v => ?_)
      refine zg_iast (q := 119) C dX2_init_118 rfl v.1 ?_
      have v := v.2 _ rfl
      refine zg_aload_n (q := 120) C dX2_init_119 rfl rfl ?_
      refine zg_get (j := 1) (q := 123) C bX2 (by decide) lkX2_15 dX2_init_120 rfl (okA.get v.1) ?_
      have v := v.2
      refine zg_iload (q := 125) C dX2_init_123 rfl rfl ?_
      refine zg_aload_n (q := 126) C dX2_init_125 rfl rfl ?_
      refine zg_iload_n (q := 127) C dX2_init_126 rfl rfl ?_
      refine zg_iload_n (q := 128) C dX2_init_127 rfl rfl ?_
      refine zg_iload (q := 130) C dX2_init_128 rfl rfl ?_
      refine zg_iconst (v := 1) (q := 131) C dX2_init_130 (by decide) rfl ?_
      refine zg_cS5I (q := 134) C mX2_way tX2_way lmX2_33 rfl (Nat.le_of_ble_eq_true rfl) hc dX2_init_131 rfl v (fun r5 h4 v => ?_)
      refine zg_iast (q := 135) C dX2_init_134 rfl v.1 ?_
      have v := v.2 _ rfl
      refine zg_iinc (v := 1) (q := 138) C dX2_init_135 rfl (by decide) (by decide) rfl ?_
      refine zg_goto (t := 72) C dX2_init_138 (by decide) ?_
      exact zg_mask [true, true, true, true, true, false] v
theorem rnX2_init {E : Wd} {d mc ms : Nat} {a0 : Nat} {a1 : Nat} {h : Hp} {Q : Hp → Prop} (k : ∀ (K40 : Nat → Nat → Int32 → Hp → Prop) (K55 : Nat → Nat → Int32 → Int32 → Hp → Prop) (K72 : Nat → Nat → Int32 → Int32 → Int32 → Hp → Prop),(∀ (a0 : Nat) (a1 : Nat) (x2 : Int32) h, vcX2_init_40 E d mc ms K40 K55 K72 a0 a1 x2 h Q → K40 a0 a1 x2 h) → (∀ (a0 : Nat) (a1 : Nat) (x2 : Int32) (x3 : Int32) h, vcX2_init_55 E d mc ms K40 K55 K72 a0 a1 x2 x3 h Q → K55 a0 a1 x2 x3 h) → (∀ (a0 : Nat) (a1 : Nat) (x2 : Int32) (x3 : Int32) (x4 : Int32) h, vcX2_init_72 E d mc ms K40 K55 K72 a0 a1 x2 x3 x4 h Q → K72 a0 a1 x2 x3 x4 h) → vcX2_init_0 E d mc ms K40 K55 K72 a0 a1 h Q) : OkW E YX2_init (d + 1) mc ms [.ref a0, .ref a1] h Q :=
  zz_body2 (r := 4) mX2_init (zc_a (zc_a zc_n)) (Nat.le_of_ble_eq_true rfl) (fun X C => zsX2_init_0 C a0 a1 h (k (zkX2_init_40 E X) (zkX2_init_55 E X) (zkX2_init_72 E X) (fun a0 a1 x2 h v => zsX2_init_40 C a0 a1 x2 h v) (fun a0 a1 x2 x3 h v => zsX2_init_55 C a0 a1 x2 x3 h v) (fun a0 a1 x2 x3 x4 h v => zsX2_init_72 C a0 a1 x2 x3 x4 h v)))
def vcX2_wayOf_38 (E : Wd) (d : Nat) (x1 : Int32) (x2 : Int32) (x3 : Int32) (s0 : Nat) (h : Hp) (Q : Int32 → Hp → Prop) : Prop :=
  ((((x1 * (144 : Int32)) + (x2 * (12 : Int32))) + x3) < (0 : Int32) → Q ((-1)) h) ∧ (¬ (((x1 * (144 : Int32)) + (x2 * (12 : Int32))) + x3) < (0 : Int32) → okL E h s0 0 ∧ ((lA h s0) ≤ (((x1 * (144 : Int32)) + (x2 * (12 : Int32))) + x3) → Q ((-1)) h) ∧ (¬ (lA h s0) ≤ (((x1 * (144 : Int32)) + (x2 * (12 : Int32))) + x3) → okR E h s0 0 (((x1 * (144 : Int32)) + (x2 * (12 : Int32))) + x3) ∧ Q (gA h s0 (((x1 * (144 : Int32)) + (x2 * (12 : Int32))) + x3)) h))
def vcX2_wayOf_0 (E : Wd) (d : Nat) (a0 : Nat) (x1 : Int32) (x2 : Int32) (x3 : Int32) (x4 : Int32) (h : Hp) (Q : Int32 → Hp → Prop) : Prop :=
  (x2 < (0 : Int32) → Q ((-1)) h) ∧ (¬ x2 < (0 : Int32) → ((12 : Int32) ≤ x2 → Q ((-1)) h) ∧ (¬ (12 : Int32) ≤ x2 → (x3 < (0 : Int32) → Q ((-1)) h) ∧ (¬ x3 < (0 : Int32) → (x3 < (12 : Int32) → (x4 = (0 : Int32) → okA h a0 2 0 ∧ vcX2_wayOf_38 E d x1 x2 x3 (fA h a0 0) h Q) ∧ (¬ x4 = (0 : Int32) → okA h a0 2 1 ∧ vcX2_wayOf_38 E d x1 x2 x3 (fA h a0 1) h Q)) ∧ (¬ x3 < (12 : Int32) → Q ((-1)) h))))
set_option maxRecDepth 100000 in
set_option maxHeartbeats 4000000 in
theorem zsX2_wayOf_38 {E : Wd} {X : Mx} {d : Nat} {Q : Int32 → Hp → Prop} (C : zz_C E X YX2_wayOf d 0 0 (fun r h' => ∃ x : Int32, r = some (.int x) ∧ Q x h')) (x1 : Int32) (x2 : Int32) (x3 : Int32) (s0 : Nat) (h : Hp) (v : vcX2_wayOf_38 E d x1 x2 x3 s0 h Q) : GG E X 7 0 0 38 [none, some (.int x1), some (.int x2), some (.int x3), none, none, none] [.ref s0] h := by
  refine zg_astore (q := 40) C dX2_wayOf_38 (by decide) rfl ?_
  refine zg_iload_n (q := 41) C dX2_wayOf_40 rfl rfl ?_
  refine zg_sipush (v := 144) (q := 44) C dX2_wayOf_41 (by decide) rfl ?_
  refine zg_imul (q := 45) C dX2_wayOf_44 rfl ?_
  refine zg_iload_n (q := 46) C dX2_wayOf_45 rfl rfl ?_
  refine zg_bipush (v := 12) (q := 48) C dX2_wayOf_46 (by decide) rfl ?_
  refine zg_imul (q := 49) C dX2_wayOf_48 rfl ?_
  refine zg_iadd (q := 50) C dX2_wayOf_49 rfl ?_
  refine zg_iload_n (q := 51) C dX2_wayOf_50 rfl rfl ?_
  refine zg_iadd (q := 52) C dX2_wayOf_51 rfl ?_
  refine zg_istore (q := 54) C dX2_wayOf_52 (by decide) rfl ?_
  refine zg_iload (q := 56) C dX2_wayOf_54 rfl rfl ?_
  refine zg_if_lt (t := 75) (q := 59) C dX2_wayOf_56 (by decide) rfl (fun c => ?_) (fun c => ?_)
  · have v := v.1 c
    refine zg_iconst (v := (-1)) (q := 76) C dX2_wayOf_75 (by decide) rfl ?_
    exact zg_iret C rfl dX2_wayOf_76 ⟨Nat.le_refl _, Nat.le_refl _⟩ ⟨_, rfl, v⟩
  · have v := v.2 c
    refine zg_iload (q := 61) C dX2_wayOf_59 rfl rfl ?_
    refine zg_aload (q := 63) C dX2_wayOf_61 rfl rfl ?_
    refine zg_alen (t := 0) (q := 64) C (by decide) dX2_wayOf_63 rfl v.1 ?_
    have v := v.2
    refine zg_icmp_ge (t := 75) (q := 67) C dX2_wayOf_64 (by decide) rfl (fun c => ?_) (fun c => ?_)
    · have v := v.1 c
      refine zg_iconst (v := (-1)) (q := 76) C dX2_wayOf_75 (by decide) rfl ?_
      exact zg_iret C rfl dX2_wayOf_76 ⟨Nat.le_refl _, Nat.le_refl _⟩ ⟨_, rfl, v⟩
    · have v := v.2 c
      refine zg_aload (q := 69) C dX2_wayOf_67 rfl rfl ?_
      refine zg_iload (q := 71) C dX2_wayOf_69 rfl rfl ?_
      refine zg_iald (q := 72) C dX2_wayOf_71 rfl v.1 ?_
      have v := v.2
      refine zg_goto (t := 76) C dX2_wayOf_72 (by decide) ?_
      exact zg_iret C rfl dX2_wayOf_76 ⟨Nat.le_refl _, Nat.le_refl _⟩ ⟨_, rfl, v⟩
set_option maxRecDepth 100000 in
set_option maxHeartbeats 4000000 in
theorem zsX2_wayOf_0 {E : Wd} {X : Mx} {d : Nat} {Q : Int32 → Hp → Prop} (C : zz_C E X YX2_wayOf d 0 0 (fun r h' => ∃ x : Int32, r = some (.int x) ∧ Q x h')) (a0 : Nat) (x1 : Int32) (x2 : Int32) (x3 : Int32) (x4 : Int32) (h : Hp) (v : vcX2_wayOf_0 E d a0 x1 x2 x3 x4 h Q) : GG E X 7 0 0 0 [some (.ref a0), some (.int x1), some (.int x2), some (.int x3), some (.int x4), none, none] [] h := by
  refine zg_iload_n (q := 1) C dX2_wayOf_0 rfl rfl ?_
  refine zg_if_lt (t := 20) (q := 4) C dX2_wayOf_1 (by decide) rfl (fun c => ?_) (fun c => ?_)
  · have v := v.1 c
    refine zg_iconst (v := (-1)) (q := 21) C dX2_wayOf_20 (by decide) rfl ?_
    exact zg_iret C rfl dX2_wayOf_21 ⟨Nat.le_refl _, Nat.le_refl _⟩ ⟨_, rfl, v⟩
  · have v := v.2 c
    refine zg_iload_n (q := 5) C dX2_wayOf_4 rfl rfl ?_
    refine zg_bipush (v := 12) (q := 7) C dX2_wayOf_5 (by decide) rfl ?_
    refine zg_icmp_ge (t := 20) (q := 10) C dX2_wayOf_7 (by decide) rfl (fun c => ?_) (fun c => ?_)
    · have v := v.1 c
      refine zg_iconst (v := (-1)) (q := 21) C dX2_wayOf_20 (by decide) rfl ?_
      exact zg_iret C rfl dX2_wayOf_21 ⟨Nat.le_refl _, Nat.le_refl _⟩ ⟨_, rfl, v⟩
    · have v := v.2 c
      refine zg_iload_n (q := 11) C dX2_wayOf_10 rfl rfl ?_
      refine zg_if_lt (t := 20) (q := 14) C dX2_wayOf_11 (by decide) rfl (fun c => ?_) (fun c => ?_)
      · have v := v.1 c
        refine zg_iconst (v := (-1)) (q := 21) C dX2_wayOf_20 (by decide) rfl ?_
        exact zg_iret C rfl dX2_wayOf_21 ⟨Nat.le_refl _, Nat.le_refl _⟩ ⟨_, rfl, v⟩
      · have v := v.2 c
        refine zg_iload_n (q := 15) C dX2_wayOf_14 rfl rfl ?_
        refine zg_bipush (v := 12) (q := 17) C dX2_wayOf_15 (by decide) rfl ?_
        refine zg_icmp_lt (t := 22) (q := 20) C dX2_wayOf_17 (by decide) rfl (fun c => ?_) (fun c => ?_)
        · have v := v.1 c
          refine zg_iload (q := 24) C dX2_wayOf_22 rfl rfl ?_
          refine zg_if_eq (t := 34) (q := 27) C dX2_wayOf_24 (by decide) rfl (fun c => ?_) (fun c => ?_)
          · have v := v.1 c
            refine zg_aload_n (q := 35) C dX2_wayOf_34 rfl rfl ?_
            refine zg_get (j := 0) (q := 38) C bX2 (by decide) lkX2_11 dX2_wayOf_35 rfl (okA.get v.1) ?_
            have v := v.2
            exact zg_mask [false, true, true, true, false, false, false] (zsX2_wayOf_38 C _ _ _ _ _ v)
          · have v := v.2 c
            refine zg_aload_n (q := 28) C dX2_wayOf_27 rfl rfl ?_
            refine zg_get (j := 1) (q := 31) C bX2 (by decide) lkX2_15 dX2_wayOf_28 rfl (okA.get v.1) ?_
            have v := v.2
            refine zg_goto (t := 38) C dX2_wayOf_31 (by decide) ?_
            exact zg_mask [false, true, true, true, false, false, false] (zsX2_wayOf_38 C _ _ _ _ _ v)
        · have v := v.2 c
          refine zg_iconst (v := (-1)) (q := 21) C dX2_wayOf_20 (by decide) rfl ?_
          exact zg_iret C rfl dX2_wayOf_21 ⟨Nat.le_refl _, Nat.le_refl _⟩ ⟨_, rfl, v⟩
theorem rnX2_wayOf {E : Wd} {d : Nat} {a0 : Nat} {x1 : Int32} {x2 : Int32} {x3 : Int32} {x4 : Int32} {h : Hp} {Q : Int32 → Hp → Prop} (k : vcX2_wayOf_0 E d a0 x1 x2 x3 x4 h Q) : OkI E YX2_wayOf d [.ref a0, .int x1, .int x2, .int x3, .int x4] h Q :=
  zz_body2 (r := 2) mX2_wayOf (zc_a (zc_i (zc_i (zc_i (zc_i zc_n))))) (Nat.le_of_ble_eq_true rfl) (fun X C => zsX2_wayOf_0 C a0 x1 x2 x3 x4 h k)
def vcX2_way_107 (E : Wd) (d : Nat) (s0 : Int32) (s1 : Int32) (h : Hp) (Q : Int32 → Hp → Prop) : Prop :=
  (¬ s0 = s1 → Q ((-1)) h) ∧ (s0 = s1 → Q 0 h)
def vcX2_way_83 (E : Wd) (d : Nat) (x4 : Int32) (x5 : Int32) (x6 : Int32) (s0 : Int32) (h : Hp) (Q : Int32 → Hp → Prop) : Prop :=
  (¬ x6 = s0 → Q ((-1)) h) ∧ (x6 = s0 → (x4 = (0 : Int32) → vcX2_way_107 E d (if 0 ≤ x5 then x5 else 0 - x5) 0 h Q) ∧ (¬ x4 = (0 : Int32) → vcX2_way_107 E d (if 0 ≤ x5 then x5 else 0 - x5) 1 h Q))
def vcX2_way_0 (E : Wd) (d : Nat) (a0 : Nat) (x1 : Int32) (x2 : Int32) (x3 : Int32) (x4 : Int32) (h : Hp) (Q : Int32 → Hp → Prop) : Prop :=
  okI h a0 4 0 ∧ ((fI h a0 0) < (1 : Int32) → Q ((-1)) h) ∧ (¬ (fI h a0 0) < (1 : Int32) → (x2 = x3 → Q ((-1)) h) ∧ (¬ x2 = x3 → okI h a0 4 4 ∧ (¬ (((fI h a0 4) >>> (x3 &&& 31)) &&& (1 : Int32)) = (0 : Int32) → okI h a0 4 0 ∧ (¬ (fI h a0 0) = (0 : Int32)) ∧ okI h a0 4 0 ∧ (¬ (fI h a0 0) = (0 : Int32)) ∧ okI h a0 4 0 ∧ (¬ (fI h a0 0) = (0 : Int32)) ∧ okI h a0 4 0 ∧ (¬ (fI h a0 0) = (0 : Int32)) ∧ isO h a0 4 ∧ OkI E YX4_kindOf d [.ref a0, .int x1] h (fun r2 h1 => (¬ r2 = (9 : Int32) → OkI E YX2_isStep d [.int r2, .int (if 0 ≤ ((x3 - x3 / (fI h a0 0) * (fI h a0 0)) - (x2 - x2 / (fI h a0 0) * (fI h a0 0))) then ((x3 - x3 / (fI h a0 0) * (fI h a0 0)) - (x2 - x2 / (fI h a0 0) * (fI h a0 0))) else 0 - ((x3 - x3 / (fI h a0 0) * (fI h a0 0)) - (x2 - x2 / (fI h a0 0) * (fI h a0 0)))), .int (if 0 ≤ ((x3 / (fI h a0 0)) - (x2 / (fI h a0 0))) then ((x3 / (fI h a0 0)) - (x2 / (fI h a0 0))) else 0 - ((x3 / (fI h a0 0)) - (x2 / (fI h a0 0))))] h1 (fun r4 h3 => (r4 = (0 : Int32) → OkI E YX2_isRide d [.int r2, .int (if 0 ≤ ((x3 - x3 / (fI h a0 0) * (fI h a0 0)) - (x2 - x2 / (fI h a0 0) * (fI h a0 0))) then ((x3 - x3 / (fI h a0 0) * (fI h a0 0)) - (x2 - x2 / (fI h a0 0) * (fI h a0 0))) else 0 - ((x3 - x3 / (fI h a0 0) * (fI h a0 0)) - (x2 - x2 / (fI h a0 0) * (fI h a0 0)))), .int (if 0 ≤ ((x3 / (fI h a0 0)) - (x2 / (fI h a0 0))) then ((x3 / (fI h a0 0)) - (x2 / (fI h a0 0))) else 0 - ((x3 / (fI h a0 0)) - (x2 / (fI h a0 0))))] h3 (fun r6 h5 => (r6 = (0 : Int32) → Q ((-1)) h5) ∧ (¬ r6 = (0 : Int32) → OkI E YX2_between d [.ref a0, .int x2, .int ((x3 - x3 / (fI h a0 0) * (fI h a0 0)) - (x2 - x2 / (fI h a0 0) * (fI h a0 0))), .int ((x3 / (fI h a0 0)) - (x2 / (fI h a0 0)))] h5 (fun r8 h7 => Q r8 h7)))) ∧ (¬ r4 = (0 : Int32) → Q 0 h3))) ∧ (r2 = (9 : Int32) → isO h1 a0 4 ∧ OkI E YX4_sideOf d [.ref a0, .int x1] h1 (fun r10 h9 => (¬ r10 = (0 : Int32) → vcX2_way_83 E d x4 ((x3 - x3 / (fI h a0 0) * (fI h a0 0)) - (x2 - x2 / (fI h a0 0) * (fI h a0 0))) ((x3 / (fI h a0 0)) - (x2 / (fI h a0 0))) ((-1)) h9 Q) ∧ (r10 = (0 : Int32) → vcX2_way_83 E d x4 ((x3 - x3 / (fI h a0 0) * (fI h a0 0)) - (x2 - x2 / (fI h a0 0) * (fI h a0 0))) ((x3 / (fI h a0 0)) - (x2 / (fI h a0 0))) 1 h9 Q))))) ∧ ((((fI h a0 4) >>> (x3 &&& 31)) &&& (1 : Int32)) = (0 : Int32) → Q ((-1)) h)))
set_option maxRecDepth 100000 in
set_option maxHeartbeats 4000000 in
theorem zsX2_way_107 {E : Wd} {X : Mx} {d : Nat} {Q : Int32 → Hp → Prop} (C : zz_C E X YX2_way (d + 1) 0 0 (fun r h' => ∃ x : Int32, r = some (.int x) ∧ Q x h')) (s0 : Int32) (s1 : Int32) (h : Hp) (v : vcX2_way_107 E d s0 s1 h Q) : GG E X 9 0 0 107 [none, none, none, none, none, none, none, none, none] [.int s1, .int s0] h := by
  refine zg_icmp_ne (t := 114) (q := 110) C dX2_way_107 (by decide) rfl (fun c => ?_) (fun c => ?_)
  · have v := v.1 c
    refine zg_iconst (v := (-1)) (q := 115) C dX2_way_114 (by decide) rfl ?_
    exact zg_iret C rfl dX2_way_115 ⟨Nat.le_refl _, Nat.le_refl _⟩ ⟨_, rfl, v⟩
  · have v := v.2 c
    refine zg_iconst (v := 0) (q := 111) C dX2_way_110 (by decide) rfl ?_
    refine zg_goto (t := 115) C dX2_way_111 (by decide) ?_
    exact zg_iret C rfl dX2_way_115 ⟨Nat.le_refl _, Nat.le_refl _⟩ ⟨_, rfl, v⟩
set_option maxRecDepth 100000 in
set_option maxHeartbeats 4000000 in
theorem zsX2_way_83 {E : Wd} {X : Mx} {d : Nat} {Q : Int32 → Hp → Prop} (C : zz_C E X YX2_way (d + 1) 0 0 (fun r h' => ∃ x : Int32, r = some (.int x) ∧ Q x h')) (x4 : Int32) (x5 : Int32) (x6 : Int32) (s0 : Int32) (h : Hp) (v : vcX2_way_83 E d x4 x5 x6 s0 h Q) : GG E X 9 0 0 83 [none, none, none, none, some (.int x4), some (.int x5), some (.int x6), none, none] [.int s0] h := by
  refine zg_istore (q := 85) C dX2_way_83 (by decide) rfl ?_
  refine zg_iload (q := 87) C dX2_way_85 rfl rfl ?_
  refine zg_iload (q := 89) C dX2_way_87 rfl rfl ?_
  refine zg_icmp_ne (t := 114) (q := 92) C dX2_way_89 (by decide) rfl (fun c => ?_) (fun c => ?_)
  · have v := v.1 c
    refine zg_iconst (v := (-1)) (q := 115) C dX2_way_114 (by decide) rfl ?_
    exact zg_iret C rfl dX2_way_115 ⟨Nat.le_refl _, Nat.le_refl _⟩ ⟨_, rfl, v⟩
  · have v := v.2 c
    refine zg_iload (q := 94) C dX2_way_92 rfl rfl ?_
    refine zg_abs (q := 97) C maX2_50 rfl (Nat.le_add_left _ _) (Nat.le_of_ble_eq_true rfl) ⟨Nat.le_refl _, Nat.le_refl _⟩ dX2_way_94 rfl ?_
    refine zg_iload (q := 99) C dX2_way_97 rfl rfl ?_
    refine zg_if_eq (t := 106) (q := 102) C dX2_way_99 (by decide) rfl (fun c => ?_) (fun c => ?_)
    · have v := v.1 c
      refine zg_iconst (v := 0) (q := 107) C dX2_way_106 (by decide) rfl ?_
      exact zg_mask [false, false, false, false, false, false, false, false, false] (zsX2_way_107 C _ _ _ v)
    · have v := v.2 c
      refine zg_iconst (v := 1) (q := 103) C dX2_way_102 (by decide) rfl ?_
      refine zg_goto (t := 107) C dX2_way_103 (by decide) ?_
      exact zg_mask [false, false, false, false, false, false, false, false, false] (zsX2_way_107 C _ _ _ v)
set_option maxRecDepth 100000 in
set_option maxHeartbeats 4000000 in
theorem zsX2_way_0 {E : Wd} {X : Mx} {d : Nat} {Q : Int32 → Hp → Prop} (C : zz_C E X YX2_way (d + 1) 0 0 (fun r h' => ∃ x : Int32, r = some (.int x) ∧ Q x h')) (a0 : Nat) (x1 : Int32) (x2 : Int32) (x3 : Int32) (x4 : Int32) (h : Hp) (v : vcX2_way_0 E d a0 x1 x2 x3 x4 h Q) : GG E X 9 0 0 0 [some (.ref a0), some (.int x1), some (.int x2), some (.int x3), some (.int x4), none, none, none, none] [] h := by
  refine zg_aload_n (q := 1) C dX2_way_0 rfl rfl ?_
  refine zg_getN (j := 0) (q := 4) C bX4 (by decide) lkX2_37 dX2_way_1 rfl (okI.get v.1) ?_
  have v := v.2
  refine zg_iconst (v := 1) (q := 5) C dX2_way_4 (by decide) rfl ?_
  refine zg_icmp_lt (t := 24) (q := 8) C dX2_way_5 (by decide) rfl (fun c => ?_) (fun c => ?_)
  · have v := v.1 c
    refine zg_iconst (v := (-1)) (q := 25) C dX2_way_24 (by decide) rfl ?_
    exact zg_iret C rfl dX2_way_25 ⟨Nat.le_refl _, Nat.le_refl _⟩ ⟨_, rfl, v⟩
  · have v := v.2 c
    refine zg_iload_n (q := 9) C dX2_way_8 rfl rfl ?_
    refine zg_iload_n (q := 10) C dX2_way_9 rfl rfl ?_
    refine zg_icmp_eq (t := 24) (q := 13) C dX2_way_10 (by decide) rfl (fun c => ?_) (fun c => ?_)
    · have v := v.1 c
      refine zg_iconst (v := (-1)) (q := 25) C dX2_way_24 (by decide) rfl ?_
      exact zg_iret C rfl dX2_way_25 ⟨Nat.le_refl _, Nat.le_refl _⟩ ⟨_, rfl, v⟩
    · have v := v.2 c
      refine zg_aload_n (q := 14) C dX2_way_13 rfl rfl ?_
      refine zg_getN (j := 4) (q := 17) C bX4 (by decide) lkX2_40 dX2_way_14 rfl (okI.get v.1) ?_
      have v := v.2
      refine zg_iload_n (q := 18) C dX2_way_17 rfl rfl ?_
      refine zg_ishr (q := 19) C dX2_way_18 rfl ?_
      refine zg_iconst (v := 1) (q := 20) C dX2_way_19 (by decide) rfl ?_
      refine zg_iand (q := 21) C dX2_way_20 rfl ?_
      refine zg_if_ne (t := 26) (q := 24) C dX2_way_21 (by decide) rfl (fun c => ?_) (fun c => ?_)
      · have v := v.1 c
        refine zg_iload_n (q := 27) C dX2_way_26 rfl rfl ?_
        refine zg_aload_n (q := 28) C dX2_way_27 rfl rfl ?_
        refine zg_getN (j := 0) (q := 31) C bX4 (by decide) lkX2_37 dX2_way_28 rfl (okI.get v.1) ?_
        have v := v.2
        refine zg_irem (q := 32) C dX2_way_31 v.1 rfl ?_
        have v := v.2
        refine zg_iload_n (q := 33) C dX2_way_32 rfl rfl ?_
        refine zg_aload_n (q := 34) C dX2_way_33 rfl rfl ?_
        refine zg_getN (j := 0) (q := 37) C bX4 (by decide) lkX2_37 dX2_way_34 rfl (okI.get v.1) ?_
        have v := v.2
        refine zg_irem (q := 38) C dX2_way_37 v.1 rfl ?_
        have v := v.2
        refine zg_isub (q := 39) C dX2_way_38 rfl ?_
        refine zg_istore (q := 41) C dX2_way_39 (by decide) rfl ?_
        refine zg_iload_n (q := 42) C dX2_way_41 rfl rfl ?_
        refine zg_aload_n (q := 43) C dX2_way_42 rfl rfl ?_
        refine zg_getN (j := 0) (q := 46) C bX4 (by decide) lkX2_37 dX2_way_43 rfl (okI.get v.1) ?_
        have v := v.2
        refine zg_idiv (q := 47) C dX2_way_46 v.1 rfl ?_
        have v := v.2
        refine zg_iload_n (q := 48) C dX2_way_47 rfl rfl ?_
        refine zg_aload_n (q := 49) C dX2_way_48 rfl rfl ?_
        refine zg_getN (j := 0) (q := 52) C bX4 (by decide) lkX2_37 dX2_way_49 rfl (okI.get v.1) ?_
        have v := v.2
        refine zg_idiv (q := 53) C dX2_way_52 v.1 rfl ?_
        have v := v.2
        refine zg_isub (q := 54) C dX2_way_53 rfl ?_
        refine zg_istore (q := 56) C dX2_way_54 (by decide) rfl ?_
        refine zg_aload_n (q := 57) C dX2_way_56 rfl rfl ?_
        refine zg_iload_n (q := 58) C dX2_way_57 rfl rfl ?_
        refine zg_cV1I (q := 61) C mX4_kindOf vX4_kindOf lmX2_43 rfl (bX4).1 v.1 (Nat.le_of_ble_eq_true rfl) ⟨Nat.le_refl _, Nat.le_refl _⟩ dX2_way_58 rfl v.2 (fun r2 h1 v => ?_)
        refine zg_istore (q := 63) C dX2_way_61 (by decide) rfl ?_
        refine zg_iload (q := 65) C dX2_way_63 rfl rfl ?_
        refine zg_bipush (v := 9) (q := 67) C dX2_way_65 (by decide) rfl ?_
        refine zg_icmp_ne (t := 116) (q := 70) C dX2_way_67 (by decide) rfl (fun c => ?_) (fun c => ?_)
        · have v := v.1 c
          refine zg_iload (q := 118) C dX2_way_116 rfl rfl ?_
          refine zg_iload (q := 120) C dX2_way_118 rfl rfl ?_
          refine zg_abs (q := 123) C maX2_50 rfl (Nat.le_add_left _ _) (Nat.le_of_ble_eq_true rfl) ⟨Nat.le_refl _, Nat.le_refl _⟩ dX2_way_120 rfl ?_
          refine zg_iload (q := 125) C dX2_way_123 rfl rfl ?_
          refine zg_abs (q := 128) C maX2_50 rfl (Nat.le_add_left _ _) (Nat.le_of_ble_eq_true rfl) ⟨Nat.le_refl _, Nat.le_refl _⟩ dX2_way_125 rfl ?_
          refine zg_cS3I (q := 131) C mX2_isStep tX2_isStep lmX2_55 rfl (Nat.le_of_ble_eq_true rfl) ⟨Nat.le_refl _, Nat.le_refl _⟩ dX2_way_128 rfl v (fun r4 h3 v => ?_)
          refine zg_if_eq (t := 136) (q := 134) C dX2_way_131 (by decide) rfl (fun c => ?_) (fun c => ?_)
          · have v := v.1 c
            refine zg_iload (q := 138) C dX2_way_136 rfl rfl ?_
            refine zg_iload (q := 140) C dX2_way_138 rfl rfl ?_
            refine zg_abs (q := 143) C maX2_50 rfl (Nat.le_add_left _ _) (Nat.le_of_ble_eq_true rfl) ⟨Nat.le_refl _, Nat.le_refl _⟩ dX2_way_140 rfl ?_
            refine zg_iload (q := 145) C dX2_way_143 rfl rfl ?_
            refine zg_abs (q := 148) C maX2_50 rfl (Nat.le_add_left _ _) (Nat.le_of_ble_eq_true rfl) ⟨Nat.le_refl _, Nat.le_refl _⟩ dX2_way_145 rfl ?_
            refine zg_cS3I (q := 151) C mX2_isRide tX2_isRide lmX2_59 rfl (Nat.le_of_ble_eq_true rfl) ⟨Nat.le_refl _, Nat.le_refl _⟩ dX2_way_148 rfl v (fun r6 h5 v => ?_)
            refine zg_if_eq (t := 166) (q := 154) C dX2_way_151 (by decide) rfl (fun c => ?_) (fun c => ?_)
            · have v := v.1 c
              refine zg_iconst (v := (-1)) (q := 167) C dX2_way_166 (by decide) rfl ?_
              exact zg_iret C rfl dX2_way_167 ⟨Nat.le_refl _, Nat.le_refl _⟩ ⟨_, rfl, v⟩
            · have v := v.2 c
              refine zg_aload_n (q := 155) C dX2_way_154 rfl rfl ?_
              refine zg_iload_n (q := 156) C dX2_way_155 rfl rfl ?_
              refine zg_iload (q := 158) C dX2_way_156 rfl rfl ?_
              refine zg_iload (q := 160) C dX2_way_158 rfl rfl ?_
              refine zg_cS4I (q := 163) C mX2_between tX2_between lmX2_62 rfl (Nat.le_of_ble_eq_true rfl) ⟨Nat.le_refl _, Nat.le_refl _⟩ dX2_way_160 rfl v (fun r8 h7 v => ?_)
              refine zg_goto (t := 167) C dX2_way_163 (by decide) ?_
              exact zg_iret C rfl dX2_way_167 ⟨Nat.le_refl _, Nat.le_refl _⟩ ⟨_, rfl, v⟩
          · have v := v.2 c
            refine zg_iconst (v := 0) (q := 135) C dX2_way_134 (by decide) rfl ?_
            exact zg_iret C rfl dX2_way_135 ⟨Nat.le_refl _, Nat.le_refl _⟩ ⟨_, rfl, v⟩
        · have v := v.2 c
          refine zg_aload_n (q := 71) C dX2_way_70 rfl rfl ?_
          refine zg_iload_n (q := 72) C dX2_way_71 rfl rfl ?_
          refine zg_cV1I (q := 75) C mX4_sideOf vX4_sideOf lmX2_47 rfl (bX4).1 v.1 (Nat.le_of_ble_eq_true rfl) ⟨Nat.le_refl _, Nat.le_refl _⟩ dX2_way_72 rfl v.2 (fun r10 h9 v => ?_)
          refine zg_if_ne (t := 82) (q := 78) C dX2_way_75 (by decide) rfl (fun c => ?_) (fun c => ?_)
          · have v := v.1 c
            refine zg_iconst (v := (-1)) (q := 83) C dX2_way_82 (by decide) rfl ?_
            exact zg_mask [false, false, false, false, true, true, true, false, false] (zsX2_way_83 C _ _ _ _ _ v)
          · have v := v.2 c
            refine zg_iconst (v := 1) (q := 79) C dX2_way_78 (by decide) rfl ?_
            refine zg_goto (t := 83) C dX2_way_79 (by decide) ?_
            exact zg_mask [false, false, false, false, true, true, true, false, false] (zsX2_way_83 C _ _ _ _ _ v)
      · have v := v.2 c
        refine zg_iconst (v := (-1)) (q := 25) C dX2_way_24 (by decide) rfl ?_
        exact zg_iret C rfl dX2_way_25 ⟨Nat.le_refl _, Nat.le_refl _⟩ ⟨_, rfl, v⟩
theorem rnX2_way {E : Wd} {d : Nat} {a0 : Nat} {x1 : Int32} {x2 : Int32} {x3 : Int32} {x4 : Int32} {h : Hp} {Q : Int32 → Hp → Prop} (k : vcX2_way_0 E d a0 x1 x2 x3 x4 h Q) : OkI E YX2_way (d + 1) [.ref a0, .int x1, .int x2, .int x3, .int x4] h Q :=
  zz_body2 (r := 4) mX2_way (zc_a (zc_i (zc_i (zc_i (zc_i zc_n))))) (Nat.le_of_ble_eq_true rfl) (fun X C => zsX2_way_0 C a0 x1 x2 x3 x4 h k)
def vcX2_isStep_0 (E : Wd) (d : Nat) (x0 : Int32) (x1 : Int32) (x2 : Int32) (h : Hp) (Q : Int32 → Hp → Prop) : Prop :=
  (x0 = (0 : Int32) → (¬ (x1 + x2) = (1 : Int32) → mB 0 ∧ Q 0 h) ∧ ((x1 + x2) = (1 : Int32) → mB 1 ∧ Q 1 h)) ∧ (¬ x0 = (0 : Int32) → (x0 = (1 : Int32) → (¬ x1 = (1 : Int32) → mB 0 ∧ Q 0 h) ∧ (x1 = (1 : Int32) → (¬ x2 = (1 : Int32) → mB 0 ∧ Q 0 h) ∧ (x2 = (1 : Int32) → mB 1 ∧ Q 1 h))) ∧ (¬ x0 = (1 : Int32) → (x0 = (2 : Int32) → ((1 : Int32) < x1 → mB 0 ∧ Q 0 h) ∧ (¬ (1 : Int32) < x1 → ((1 : Int32) < x2 → mB 0 ∧ Q 0 h) ∧ (¬ (1 : Int32) < x2 → mB 1 ∧ Q 1 h))) ∧ (¬ x0 = (2 : Int32) → (x0 = (3 : Int32) → (¬ (x1 * x2) = (2 : Int32) → mB 0 ∧ Q 0 h) ∧ ((x1 * x2) = (2 : Int32) → mB 1 ∧ Q 1 h)) ∧ (¬ x0 = (3 : Int32) → (x0 = (4 : Int32) → (¬ x1 = (2 : Int32) → mB 0 ∧ Q 0 h) ∧ (x1 = (2 : Int32) → (¬ x2 = (2 : Int32) → mB 0 ∧ Q 0 h) ∧ (x2 = (2 : Int32) → mB 1 ∧ Q 1 h))) ∧ (¬ x0 = (4 : Int32) → (x0 = (5 : Int32) → mB 0 ∧ Q 0 h) ∧ (¬ x0 = (5 : Int32) → (x0 = (6 : Int32) → mB 0 ∧ Q 0 h) ∧ (¬ x0 = (6 : Int32) → (x0 = (7 : Int32) → mB 0 ∧ Q 0 h) ∧ (¬ x0 = (7 : Int32) → (x0 = (8 : Int32) → (¬ (x1 + x2) = (2 : Int32) → mB 0 ∧ Q 0 h) ∧ ((x1 + x2) = (2 : Int32) → (x1 = x2 → mB 0 ∧ Q 0 h) ∧ (¬ x1 = x2 → mB 1 ∧ Q 1 h))) ∧ (¬ x0 = (8 : Int32) → mB 0 ∧ Q 0 h)))))))))
set_option maxRecDepth 100000 in
set_option maxHeartbeats 4000000 in
theorem zsX2_isStep_0 {E : Wd} {X : Mx} {d : Nat} {Q : Int32 → Hp → Prop} (C : zz_C E X YX2_isStep d 0 0 (fun r h' => ∃ x : Int32, r = some (.int x) ∧ Q x h')) (x0 : Int32) (x1 : Int32) (x2 : Int32) (h : Hp) (v : vcX2_isStep_0 E d x0 x1 x2 h Q) : GG E X 3 0 0 0 [some (.int x0), some (.int x1), some (.int x2)] [] h := by
  refine zg_iload_n (q := 1) C dX2_isStep_0 rfl rfl ?_
  by_cases c0 : x0 = (0 : Int32)
  · have v := v.1 c0
    refine zg_tabC (t := 52) (off := 51) C dX2_isStep_1 c0 (by decide) (by decide) (by decide) (by decide) ?_
    refine zg_iload_n (q := 53) C dX2_isStep_52 rfl rfl ?_
    refine zg_iload_n (q := 54) C dX2_isStep_53 rfl rfl ?_
    refine zg_iadd (q := 55) C dX2_isStep_54 rfl ?_
    refine zg_iconst (v := 1) (q := 56) C dX2_isStep_55 (by decide) rfl ?_
    refine zg_icmp_ne (t := 63) (q := 59) C dX2_isStep_56 (by decide) rfl (fun c => ?_) (fun c => ?_)
    · have v := v.1 c
      refine zg_iconst (v := 0) (q := 64) C dX2_isStep_63 (by decide) rfl ?_
      exact zg_zret C rfl dX2_isStep_64 ⟨Nat.le_refl _, Nat.le_refl _⟩ v.1 ⟨_, rfl, v.2⟩
    · have v := v.2 c
      refine zg_iconst (v := 1) (q := 60) C dX2_isStep_59 (by decide) rfl ?_
      refine zg_goto (t := 64) C dX2_isStep_60 (by decide) ?_
      exact zg_zret C rfl dX2_isStep_64 ⟨Nat.le_refl _, Nat.le_refl _⟩ v.1 ⟨_, rfl, v.2⟩
  · have v := v.2 c0
    by_cases c1 : x0 = (1 : Int32)
    · have v := v.1 c1
      refine zg_tabC (t := 65) (off := 64) C dX2_isStep_1 c1 (by decide) (by decide) (by decide) (by decide) ?_
      refine zg_iload_n (q := 66) C dX2_isStep_65 rfl rfl ?_
      refine zg_iconst (v := 1) (q := 67) C dX2_isStep_66 (by decide) rfl ?_
      refine zg_icmp_ne (t := 79) (q := 70) C dX2_isStep_67 (by decide) rfl (fun c => ?_) (fun c => ?_)
      · have v := v.1 c
        refine zg_iconst (v := 0) (q := 80) C dX2_isStep_79 (by decide) rfl ?_
        exact zg_zret C rfl dX2_isStep_80 ⟨Nat.le_refl _, Nat.le_refl _⟩ v.1 ⟨_, rfl, v.2⟩
      · have v := v.2 c
        refine zg_iload_n (q := 71) C dX2_isStep_70 rfl rfl ?_
        refine zg_iconst (v := 1) (q := 72) C dX2_isStep_71 (by decide) rfl ?_
        refine zg_icmp_ne (t := 79) (q := 75) C dX2_isStep_72 (by decide) rfl (fun c => ?_) (fun c => ?_)
        · have v := v.1 c
          refine zg_iconst (v := 0) (q := 80) C dX2_isStep_79 (by decide) rfl ?_
          exact zg_zret C rfl dX2_isStep_80 ⟨Nat.le_refl _, Nat.le_refl _⟩ v.1 ⟨_, rfl, v.2⟩
        · have v := v.2 c
          refine zg_iconst (v := 1) (q := 76) C dX2_isStep_75 (by decide) rfl ?_
          refine zg_goto (t := 80) C dX2_isStep_76 (by decide) ?_
          exact zg_zret C rfl dX2_isStep_80 ⟨Nat.le_refl _, Nat.le_refl _⟩ v.1 ⟨_, rfl, v.2⟩
    · have v := v.2 c1
      by_cases c2 : x0 = (2 : Int32)
      · have v := v.1 c2
        refine zg_tabC (t := 81) (off := 80) C dX2_isStep_1 c2 (by decide) (by decide) (by decide) (by decide) ?_
        refine zg_iload_n (q := 82) C dX2_isStep_81 rfl rfl ?_
        refine zg_iconst (v := 1) (q := 83) C dX2_isStep_82 (by decide) rfl ?_
        refine zg_icmp_gt (t := 95) (q := 86) C dX2_isStep_83 (by decide) rfl (fun c => ?_) (fun c => ?_)
        · have v := v.1 c
          refine zg_iconst (v := 0) (q := 96) C dX2_isStep_95 (by decide) rfl ?_
          exact zg_zret C rfl dX2_isStep_96 ⟨Nat.le_refl _, Nat.le_refl _⟩ v.1 ⟨_, rfl, v.2⟩
        · have v := v.2 c
          refine zg_iload_n (q := 87) C dX2_isStep_86 rfl rfl ?_
          refine zg_iconst (v := 1) (q := 88) C dX2_isStep_87 (by decide) rfl ?_
          refine zg_icmp_gt (t := 95) (q := 91) C dX2_isStep_88 (by decide) rfl (fun c => ?_) (fun c => ?_)
          · have v := v.1 c
            refine zg_iconst (v := 0) (q := 96) C dX2_isStep_95 (by decide) rfl ?_
            exact zg_zret C rfl dX2_isStep_96 ⟨Nat.le_refl _, Nat.le_refl _⟩ v.1 ⟨_, rfl, v.2⟩
          · have v := v.2 c
            refine zg_iconst (v := 1) (q := 92) C dX2_isStep_91 (by decide) rfl ?_
            refine zg_goto (t := 96) C dX2_isStep_92 (by decide) ?_
            exact zg_zret C rfl dX2_isStep_96 ⟨Nat.le_refl _, Nat.le_refl _⟩ v.1 ⟨_, rfl, v.2⟩
      · have v := v.2 c2
        by_cases c3 : x0 = (3 : Int32)
        · have v := v.1 c3
          refine zg_tabC (t := 97) (off := 96) C dX2_isStep_1 c3 (by decide) (by decide) (by decide) (by decide) ?_
          refine zg_iload_n (q := 98) C dX2_isStep_97 rfl rfl ?_
          refine zg_iload_n (q := 99) C dX2_isStep_98 rfl rfl ?_
          refine zg_imul (q := 100) C dX2_isStep_99 rfl ?_
          refine zg_iconst (v := 2) (q := 101) C dX2_isStep_100 (by decide) rfl ?_
          refine zg_icmp_ne (t := 108) (q := 104) C dX2_isStep_101 (by decide) rfl (fun c => ?_) (fun c => ?_)
          · have v := v.1 c
            refine zg_iconst (v := 0) (q := 109) C dX2_isStep_108 (by decide) rfl ?_
            exact zg_zret C rfl dX2_isStep_109 ⟨Nat.le_refl _, Nat.le_refl _⟩ v.1 ⟨_, rfl, v.2⟩
          · have v := v.2 c
            refine zg_iconst (v := 1) (q := 105) C dX2_isStep_104 (by decide) rfl ?_
            refine zg_goto (t := 109) C dX2_isStep_105 (by decide) ?_
            exact zg_zret C rfl dX2_isStep_109 ⟨Nat.le_refl _, Nat.le_refl _⟩ v.1 ⟨_, rfl, v.2⟩
        · have v := v.2 c3
          by_cases c4 : x0 = (4 : Int32)
          · have v := v.1 c4
            refine zg_tabC (t := 110) (off := 109) C dX2_isStep_1 c4 (by decide) (by decide) (by decide) (by decide) ?_
            refine zg_iload_n (q := 111) C dX2_isStep_110 rfl rfl ?_
            refine zg_iconst (v := 2) (q := 112) C dX2_isStep_111 (by decide) rfl ?_
            refine zg_icmp_ne (t := 124) (q := 115) C dX2_isStep_112 (by decide) rfl (fun c => ?_) (fun c => ?_)
            · have v := v.1 c
              refine zg_iconst (v := 0) (q := 125) C dX2_isStep_124 (by decide) rfl ?_
              exact zg_zret C rfl dX2_isStep_125 ⟨Nat.le_refl _, Nat.le_refl _⟩ v.1 ⟨_, rfl, v.2⟩
            · have v := v.2 c
              refine zg_iload_n (q := 116) C dX2_isStep_115 rfl rfl ?_
              refine zg_iconst (v := 2) (q := 117) C dX2_isStep_116 (by decide) rfl ?_
              refine zg_icmp_ne (t := 124) (q := 120) C dX2_isStep_117 (by decide) rfl (fun c => ?_) (fun c => ?_)
              · have v := v.1 c
                refine zg_iconst (v := 0) (q := 125) C dX2_isStep_124 (by decide) rfl ?_
                exact zg_zret C rfl dX2_isStep_125 ⟨Nat.le_refl _, Nat.le_refl _⟩ v.1 ⟨_, rfl, v.2⟩
              · have v := v.2 c
                refine zg_iconst (v := 1) (q := 121) C dX2_isStep_120 (by decide) rfl ?_
                refine zg_goto (t := 125) C dX2_isStep_121 (by decide) ?_
                exact zg_zret C rfl dX2_isStep_125 ⟨Nat.le_refl _, Nat.le_refl _⟩ v.1 ⟨_, rfl, v.2⟩
          · have v := v.2 c4
            by_cases c5 : x0 = (5 : Int32)
            · have v := v.1 c5
              refine zg_tabC (t := 144) (off := 143) C dX2_isStep_1 c5 (by decide) (by decide) (by decide) (by decide) ?_
              refine zg_iconst (v := 0) (q := 145) C dX2_isStep_144 (by decide) rfl ?_
              exact zg_zret C rfl dX2_isStep_145 ⟨Nat.le_refl _, Nat.le_refl _⟩ v.1 ⟨_, rfl, v.2⟩
            · have v := v.2 c5
              by_cases c6 : x0 = (6 : Int32)
              · have v := v.1 c6
                refine zg_tabC (t := 144) (off := 143) C dX2_isStep_1 c6 (by decide) (by decide) (by decide) (by decide) ?_
                refine zg_iconst (v := 0) (q := 145) C dX2_isStep_144 (by decide) rfl ?_
                exact zg_zret C rfl dX2_isStep_145 ⟨Nat.le_refl _, Nat.le_refl _⟩ v.1 ⟨_, rfl, v.2⟩
              · have v := v.2 c6
                by_cases c7 : x0 = (7 : Int32)
                · have v := v.1 c7
                  refine zg_tabC (t := 144) (off := 143) C dX2_isStep_1 c7 (by decide) (by decide) (by decide) (by decide) ?_
                  refine zg_iconst (v := 0) (q := 145) C dX2_isStep_144 (by decide) rfl ?_
                  exact zg_zret C rfl dX2_isStep_145 ⟨Nat.le_refl _, Nat.le_refl _⟩ v.1 ⟨_, rfl, v.2⟩
                · have v := v.2 c7
                  by_cases c8 : x0 = (8 : Int32)
                  · have v := v.1 c8
                    refine zg_tabC (t := 126) (off := 125) C dX2_isStep_1 c8 (by decide) (by decide) (by decide) (by decide) ?_
                    refine zg_iload_n (q := 127) C dX2_isStep_126 rfl rfl ?_
                    refine zg_iload_n (q := 128) C dX2_isStep_127 rfl rfl ?_
                    refine zg_iadd (q := 129) C dX2_isStep_128 rfl ?_
                    refine zg_iconst (v := 2) (q := 130) C dX2_isStep_129 (by decide) rfl ?_
                    refine zg_icmp_ne (t := 142) (q := 133) C dX2_isStep_130 (by decide) rfl (fun c => ?_) (fun c => ?_)
                    · have v := v.1 c
                      refine zg_iconst (v := 0) (q := 143) C dX2_isStep_142 (by decide) rfl ?_
                      exact zg_zret C rfl dX2_isStep_143 ⟨Nat.le_refl _, Nat.le_refl _⟩ v.1 ⟨_, rfl, v.2⟩
                    · have v := v.2 c
                      refine zg_iload_n (q := 134) C dX2_isStep_133 rfl rfl ?_
                      refine zg_iload_n (q := 135) C dX2_isStep_134 rfl rfl ?_
                      refine zg_icmp_eq (t := 142) (q := 138) C dX2_isStep_135 (by decide) rfl (fun c => ?_) (fun c => ?_)
                      · have v := v.1 c
                        refine zg_iconst (v := 0) (q := 143) C dX2_isStep_142 (by decide) rfl ?_
                        exact zg_zret C rfl dX2_isStep_143 ⟨Nat.le_refl _, Nat.le_refl _⟩ v.1 ⟨_, rfl, v.2⟩
                      · have v := v.2 c
                        refine zg_iconst (v := 1) (q := 139) C dX2_isStep_138 (by decide) rfl ?_
                        refine zg_goto (t := 143) C dX2_isStep_139 (by decide) ?_
                        exact zg_zret C rfl dX2_isStep_143 ⟨Nat.le_refl _, Nat.le_refl _⟩ v.1 ⟨_, rfl, v.2⟩
                  · have v := v.2 c8
                    refine zg_tabD (t := 144) (cnt := 9) C dX2_isStep_1 (fun j hj => by match j, hj with | 0, _ => exact c0 | 1, _ => exact c1 | 2, _ => exact c2 | 3, _ => exact c3 | 4, _ => exact c4 | 5, _ => exact c5 | 6, _ => exact c6 | 7, _ => exact c7 | 8, _ => exact c8) rfl (by decide) ?_
                    refine zg_iconst (v := 0) (q := 145) C dX2_isStep_144 (by decide) rfl ?_
                    exact zg_zret C rfl dX2_isStep_145 ⟨Nat.le_refl _, Nat.le_refl _⟩ v.1 ⟨_, rfl, v.2⟩
theorem rnX2_isStep {E : Wd} {d : Nat} {x0 : Int32} {x1 : Int32} {x2 : Int32} {h : Hp} {Q : Int32 → Hp → Prop} (k : vcX2_isStep_0 E d x0 x1 x2 h Q) : OkI E YX2_isStep d [.int x0, .int x1, .int x2] h Q :=
  zz_body2 (r := 0) mX2_isStep (zc_i (zc_i (zc_i zc_n))) (Nat.le_of_ble_eq_true rfl) (fun X C => zsX2_isStep_0 C x0 x1 x2 h k)
def vcX2_isRide_24 (E : Wd) (d : Nat) (x0 : Int32) (x3 : Int32) (s0 : Int32) (h : Hp) (Q : Int32 → Hp → Prop) : Prop :=
  (x0 = (5 : Int32) → mB x3 ∧ Q x3 h) ∧ (¬ x0 = (5 : Int32) → (x0 = (6 : Int32) → mB s0 ∧ Q s0 h) ∧ (¬ x0 = (6 : Int32) → (x0 = (7 : Int32) → (¬ x3 = (0 : Int32) → mB 1 ∧ Q 1 h) ∧ (x3 = (0 : Int32) → (s0 = (0 : Int32) → mB 0 ∧ Q 0 h) ∧ (¬ s0 = (0 : Int32) → mB 1 ∧ Q 1 h))) ∧ (¬ x0 = (7 : Int32) → mB 0 ∧ Q 0 h)))
def vcX2_isRide_13 (E : Wd) (d : Nat) (x0 : Int32) (x1 : Int32) (x2 : Int32) (s0 : Int32) (h : Hp) (Q : Int32 → Hp → Prop) : Prop :=
  (¬ x1 = x2 → vcX2_isRide_24 E d x0 s0 0 h Q) ∧ (x1 = x2 → vcX2_isRide_24 E d x0 s0 1 h Q)
def vcX2_isRide_8 (E : Wd) (d : Nat) (x0 : Int32) (x1 : Int32) (x2 : Int32) (h : Hp) (Q : Int32 → Hp → Prop) : Prop :=
  vcX2_isRide_13 E d x0 x1 x2 1 h Q
def vcX2_isRide_0 (E : Wd) (d : Nat) (x0 : Int32) (x1 : Int32) (x2 : Int32) (h : Hp) (Q : Int32 → Hp → Prop) : Prop :=
  (x1 = (0 : Int32) → vcX2_isRide_8 E d x0 x1 x2 h Q) ∧ (¬ x1 = (0 : Int32) → (¬ x2 = (0 : Int32) → vcX2_isRide_13 E d x0 x1 x2 0 h Q) ∧ (x2 = (0 : Int32) → vcX2_isRide_8 E d x0 x1 x2 h Q))
set_option maxRecDepth 100000 in
set_option maxHeartbeats 4000000 in
theorem zsX2_isRide_24 {E : Wd} {X : Mx} {d : Nat} {Q : Int32 → Hp → Prop} (C : zz_C E X YX2_isRide d 0 0 (fun r h' => ∃ x : Int32, r = some (.int x) ∧ Q x h')) (x0 : Int32) (x3 : Int32) (s0 : Int32) (h : Hp) (v : vcX2_isRide_24 E d x0 x3 s0 h Q) : GG E X 5 0 0 24 [some (.int x0), none, none, some (.int x3), none] [.int s0] h := by
  refine zg_istore (q := 26) C dX2_isRide_24 (by decide) rfl ?_
  refine zg_iload_n (q := 27) C dX2_isRide_26 rfl rfl ?_
  by_cases c0 : x0 = (5 : Int32)
  · have v := v.1 c0
    refine zg_tabC (t := 52) (off := 25) C dX2_isRide_27 c0 (by decide) (by decide) (by decide) (by decide) ?_
    refine zg_iload_n (q := 53) C dX2_isRide_52 rfl rfl ?_
    exact zg_zret C rfl dX2_isRide_53 ⟨Nat.le_refl _, Nat.le_refl _⟩ v.1 ⟨_, rfl, v.2⟩
  · have v := v.2 c0
    by_cases c1 : x0 = (6 : Int32)
    · have v := v.1 c1
      refine zg_tabC (t := 54) (off := 27) C dX2_isRide_27 c1 (by decide) (by decide) (by decide) (by decide) ?_
      refine zg_iload (q := 56) C dX2_isRide_54 rfl rfl ?_
      exact zg_zret C rfl dX2_isRide_56 ⟨Nat.le_refl _, Nat.le_refl _⟩ v.1 ⟨_, rfl, v.2⟩
    · have v := v.2 c1
      by_cases c2 : x0 = (7 : Int32)
      · have v := v.1 c2
        refine zg_tabC (t := 57) (off := 30) C dX2_isRide_27 c2 (by decide) (by decide) (by decide) (by decide) ?_
        refine zg_iload_n (q := 58) C dX2_isRide_57 rfl rfl ?_
        refine zg_if_ne (t := 66) (q := 61) C dX2_isRide_58 (by decide) rfl (fun c => ?_) (fun c => ?_)
        · have v := v.1 c
          refine zg_iconst (v := 1) (q := 67) C dX2_isRide_66 (by decide) rfl ?_
          refine zg_goto (t := 71) C dX2_isRide_67 (by decide) ?_
          exact zg_zret C rfl dX2_isRide_71 ⟨Nat.le_refl _, Nat.le_refl _⟩ v.1 ⟨_, rfl, v.2⟩
        · have v := v.2 c
          refine zg_iload (q := 63) C dX2_isRide_61 rfl rfl ?_
          refine zg_if_eq (t := 70) (q := 66) C dX2_isRide_63 (by decide) rfl (fun c => ?_) (fun c => ?_)
          · have v := v.1 c
            refine zg_iconst (v := 0) (q := 71) C dX2_isRide_70 (by decide) rfl ?_
            exact zg_zret C rfl dX2_isRide_71 ⟨Nat.le_refl _, Nat.le_refl _⟩ v.1 ⟨_, rfl, v.2⟩
          · have v := v.2 c
            refine zg_iconst (v := 1) (q := 67) C dX2_isRide_66 (by decide) rfl ?_
            refine zg_goto (t := 71) C dX2_isRide_67 (by decide) ?_
            exact zg_zret C rfl dX2_isRide_71 ⟨Nat.le_refl _, Nat.le_refl _⟩ v.1 ⟨_, rfl, v.2⟩
      · have v := v.2 c2
        refine zg_tabD (t := 72) (cnt := 3) C dX2_isRide_27 (fun j hj => by match j, hj with | 0, _ => exact c0 | 1, _ => exact c1 | 2, _ => exact c2) rfl (by decide) ?_
        refine zg_iconst (v := 0) (q := 73) C dX2_isRide_72 (by decide) rfl ?_
        exact zg_zret C rfl dX2_isRide_73 ⟨Nat.le_refl _, Nat.le_refl _⟩ v.1 ⟨_, rfl, v.2⟩
set_option maxRecDepth 100000 in
set_option maxHeartbeats 4000000 in
theorem zsX2_isRide_13 {E : Wd} {X : Mx} {d : Nat} {Q : Int32 → Hp → Prop} (C : zz_C E X YX2_isRide d 0 0 (fun r h' => ∃ x : Int32, r = some (.int x) ∧ Q x h')) (x0 : Int32) (x1 : Int32) (x2 : Int32) (s0 : Int32) (h : Hp) (v : vcX2_isRide_13 E d x0 x1 x2 s0 h Q) : GG E X 5 0 0 13 [some (.int x0), some (.int x1), some (.int x2), none, none] [.int s0] h := by
  refine zg_istore_n (q := 14) C dX2_isRide_13 (by decide) rfl ?_
  refine zg_iload_n (q := 15) C dX2_isRide_14 rfl rfl ?_
  refine zg_iload_n (q := 16) C dX2_isRide_15 rfl rfl ?_
  refine zg_icmp_ne (t := 23) (q := 19) C dX2_isRide_16 (by decide) rfl (fun c => ?_) (fun c => ?_)
  · have v := v.1 c
    refine zg_iconst (v := 0) (q := 24) C dX2_isRide_23 (by decide) rfl ?_
    exact zg_mask [true, false, false, true, false] (zsX2_isRide_24 C _ _ _ _ v)
  · have v := v.2 c
    refine zg_iconst (v := 1) (q := 20) C dX2_isRide_19 (by decide) rfl ?_
    refine zg_goto (t := 24) C dX2_isRide_20 (by decide) ?_
    exact zg_mask [true, false, false, true, false] (zsX2_isRide_24 C _ _ _ _ v)
set_option maxRecDepth 100000 in
set_option maxHeartbeats 4000000 in
theorem zsX2_isRide_8 {E : Wd} {X : Mx} {d : Nat} {Q : Int32 → Hp → Prop} (C : zz_C E X YX2_isRide d 0 0 (fun r h' => ∃ x : Int32, r = some (.int x) ∧ Q x h')) (x0 : Int32) (x1 : Int32) (x2 : Int32) (h : Hp) (v : vcX2_isRide_8 E d x0 x1 x2 h Q) : GG E X 5 0 0 8 [some (.int x0), some (.int x1), some (.int x2), none, none] [] h := by
  refine zg_iconst (v := 1) (q := 9) C dX2_isRide_8 (by decide) rfl ?_
  refine zg_goto (t := 13) C dX2_isRide_9 (by decide) ?_
  exact zg_mask [true, true, true, false, false] (zsX2_isRide_13 C _ _ _ _ _ v)
set_option maxRecDepth 100000 in
set_option maxHeartbeats 4000000 in
theorem zsX2_isRide_0 {E : Wd} {X : Mx} {d : Nat} {Q : Int32 → Hp → Prop} (C : zz_C E X YX2_isRide d 0 0 (fun r h' => ∃ x : Int32, r = some (.int x) ∧ Q x h')) (x0 : Int32) (x1 : Int32) (x2 : Int32) (h : Hp) (v : vcX2_isRide_0 E d x0 x1 x2 h Q) : GG E X 5 0 0 0 [some (.int x0), some (.int x1), some (.int x2), none, none] [] h := by
  refine zg_iload_n (q := 1) C dX2_isRide_0 rfl rfl ?_
  refine zg_if_eq (t := 8) (q := 4) C dX2_isRide_1 (by decide) rfl (fun c => ?_) (fun c => ?_)
  · have v := v.1 c
    exact zg_mask [true, true, true, false, false] (zsX2_isRide_8 C _ _ _ _ v)
  · have v := v.2 c
    refine zg_iload_n (q := 5) C dX2_isRide_4 rfl rfl ?_
    refine zg_if_ne (t := 12) (q := 8) C dX2_isRide_5 (by decide) rfl (fun c => ?_) (fun c => ?_)
    · have v := v.1 c
      refine zg_iconst (v := 0) (q := 13) C dX2_isRide_12 (by decide) rfl ?_
      exact zg_mask [true, true, true, false, false] (zsX2_isRide_13 C _ _ _ _ _ v)
    · have v := v.2 c
      exact zg_mask [true, true, true, false, false] (zsX2_isRide_8 C _ _ _ _ v)
theorem rnX2_isRide {E : Wd} {d : Nat} {x0 : Int32} {x1 : Int32} {x2 : Int32} {h : Hp} {Q : Int32 → Hp → Prop} (k : vcX2_isRide_0 E d x0 x1 x2 h Q) : OkI E YX2_isRide d [.int x0, .int x1, .int x2] h Q :=
  zz_body2 (r := 2) mX2_isRide (zc_i (zc_i (zc_i zc_n))) (Nat.le_of_ble_eq_true rfl) (fun X C => zsX2_isRide_0 C x0 x1 x2 h k)
def vcX2_between_0 (E : Wd) (d : Nat) (K35 : Nat → Int32 → Int32 → Int32 → Int32 → Int32 → Hp → Prop) (a0 : Nat) (x1 : Int32) (x2 : Int32) (x3 : Int32) (h : Hp) (Q : Int32 → Hp → Prop) : Prop :=
  OkI E YX2_direction d [.int x2] h (fun r2 h1 => OkI E YX2_direction d [.int x3] h1 (fun r4 h3 => okI h3 a0 4 0 ∧ K35 a0 x1 (r2 + (r4 * (fI h3 a0 0))) (if (if 0 ≤ x2 then x2 else 0 - x2) < (if 0 ≤ x3 then x3 else 0 - x3) then (if 0 ≤ x3 then x3 else 0 - x3) else (if 0 ≤ x2 then x2 else 0 - x2)) 0 1 h3))
def vcX2_between_35 (E : Wd) (d : Nat) (K35 : Nat → Int32 → Int32 → Int32 → Int32 → Int32 → Hp → Prop) (a0 : Nat) (x1 : Int32) (x4 : Int32) (x5 : Int32) (x6 : Int32) (x7 : Int32) (h : Hp) (Q : Int32 → Hp → Prop) : Prop :=
  (x5 ≤ x7 → okI h a0 4 4 ∧ (¬ (x6 &&& ((fI h a0 4) ^^^ (-1 : Int32))) = (0 : Int32) → Q ((-1)) h) ∧ ((x6 &&& ((fI h a0 4) ^^^ (-1 : Int32))) = (0 : Int32) → Q x6 h)) ∧ (¬ x5 ≤ x7 → K35 a0 x1 x4 x5 (x6 ||| ((1 : Int32) <<< ((x1 + (x7 * x4)) &&& 31))) (x7 + 1) h)
def zkX2_between_35 (E : Wd) (X : Mx) : Nat → Int32 → Int32 → Int32 → Int32 → Int32 → Hp → Prop := fun a0 x1 x4 x5 x6 x7 h => GG E X 8 0 0 35 [some (.ref a0), some (.int x1), none, none, some (.int x4), some (.int x5), some (.int x6), some (.int x7)] [] h
set_option maxRecDepth 100000 in
set_option maxHeartbeats 4000000 in
theorem zsX2_between_0 {E : Wd} {X : Mx} {d : Nat} {Q : Int32 → Hp → Prop} (C : zz_C E X YX2_between (d + 1) 0 0 (fun r h' => ∃ x : Int32, r = some (.int x) ∧ Q x h')) (a0 : Nat) (x1 : Int32) (x2 : Int32) (x3 : Int32) (h : Hp) (v : vcX2_between_0 E d (zkX2_between_35 E X) a0 x1 x2 x3 h Q) : GG E X 8 0 0 0 [some (.ref a0), some (.int x1), some (.int x2), some (.int x3), none, none, none, none] [] h := by
  refine zg_iload_n (q := 1) C dX2_between_0 rfl rfl ?_
  refine zg_cS1I (q := 4) C mX2_direction tX2_direction lmX2_66 rfl (Nat.le_of_ble_eq_true rfl) ⟨Nat.le_refl _, Nat.le_refl _⟩ dX2_between_1 rfl v (fun r2 h1 v => ?_)
  refine zg_iload_n (q := 5) C dX2_between_4 rfl rfl ?_
  refine zg_cS1I (q := 8) C mX2_direction tX2_direction lmX2_66 rfl (Nat.le_of_ble_eq_true rfl) ⟨Nat.le_refl _, Nat.le_refl _⟩ dX2_between_5 rfl v (fun r4 h3 v => ?_)
  refine zg_aload_n (q := 9) C dX2_between_8 rfl rfl ?_
  refine zg_getN (j := 0) (q := 12) C bX4 (by decide) lkX2_37 dX2_between_9 rfl (okI.get v.1) ?_
  have v := v.2
  refine zg_imul (q := 13) C dX2_between_12 rfl ?_
  refine zg_iadd (q := 14) C dX2_between_13 rfl ?_
  refine zg_istore (q := 16) C dX2_between_14 (by decide) rfl ?_
  refine zg_iload_n (q := 17) C dX2_between_16 rfl rfl ?_
  refine zg_abs (q := 20) C maX2_50 rfl (Nat.le_add_left _ _) (Nat.le_of_ble_eq_true rfl) ⟨Nat.le_refl _, Nat.le_refl _⟩ dX2_between_17 rfl ?_
  refine zg_iload_n (q := 21) C dX2_between_20 rfl rfl ?_
  refine zg_abs (q := 24) C maX2_50 rfl (Nat.le_add_left _ _) (Nat.le_of_ble_eq_true rfl) ⟨Nat.le_refl _, Nat.le_refl _⟩ dX2_between_21 rfl ?_
  refine zg_max (q := 27) C maX2_69 rfl (Nat.le_add_left _ _) (Nat.le_of_ble_eq_true rfl) ⟨Nat.le_refl _, Nat.le_refl _⟩ dX2_between_24 rfl ?_
  refine zg_istore (q := 29) C dX2_between_27 (by decide) rfl ?_
  refine zg_iconst (v := 0) (q := 30) C dX2_between_29 (by decide) rfl ?_
  refine zg_istore (q := 32) C dX2_between_30 (by decide) rfl ?_
  refine zg_iconst (v := 1) (q := 33) C dX2_between_32 (by decide) rfl ?_
  refine zg_istore (q := 35) C dX2_between_33 (by decide) rfl ?_
  exact zg_mask [true, true, false, false, true, true, true, true] v
set_option maxRecDepth 100000 in
set_option maxHeartbeats 4000000 in
theorem zsX2_between_35 {E : Wd} {X : Mx} {d : Nat} {Q : Int32 → Hp → Prop} (C : zz_C E X YX2_between (d + 1) 0 0 (fun r h' => ∃ x : Int32, r = some (.int x) ∧ Q x h')) (a0 : Nat) (x1 : Int32) (x4 : Int32) (x5 : Int32) (x6 : Int32) (x7 : Int32) (h : Hp) (v : vcX2_between_35 E d (zkX2_between_35 E X) a0 x1 x4 x5 x6 x7 h Q) : GG E X 8 0 0 35 [some (.ref a0), some (.int x1), none, none, some (.int x4), some (.int x5), some (.int x6), some (.int x7)] [] h := by
  refine zg_iload (q := 37) C dX2_between_35 rfl rfl ?_
  refine zg_iload (q := 39) C dX2_between_37 rfl rfl ?_
  refine zg_icmp_ge (t := 62) (q := 42) C dX2_between_39 (by decide) rfl (fun c => ?_) (fun c => ?_)
  · have v := v.1 c
    refine zg_iload (q := 64) C dX2_between_62 rfl rfl ?_
    refine zg_aload_n (q := 65) C dX2_between_64 rfl rfl ?_
    refine zg_getN (j := 4) (q := 68) C bX4 (by decide) lkX2_40 dX2_between_65 rfl (okI.get v.1) ?_
    have v := v.2
    refine zg_iconst (v := (-1)) (q := 69) C dX2_between_68 (by decide) rfl ?_
    refine zg_ixor (q := 70) C dX2_between_69 rfl ?_
    refine zg_iand (q := 71) C dX2_between_70 rfl ?_
    refine zg_if_ne (t := 79) (q := 74) C dX2_between_71 (by decide) rfl (fun c => ?_) (fun c => ?_)
    · have v := v.1 c
      refine zg_iconst (v := (-1)) (q := 80) C dX2_between_79 (by decide) rfl ?_
      exact zg_iret C rfl dX2_between_80 ⟨Nat.le_refl _, Nat.le_refl _⟩ ⟨_, rfl, v⟩
    · have v := v.2 c
      refine zg_iload (q := 76) C dX2_between_74 rfl rfl ?_
      refine zg_goto (t := 80) C dX2_between_76 (by decide) ?_
      exact zg_iret C rfl dX2_between_80 ⟨Nat.le_refl _, Nat.le_refl _⟩ ⟨_, rfl, v⟩
  · have v := v.2 c
    refine zg_iload (q := 44) C dX2_between_42 rfl rfl ?_
    refine zg_iconst (v := 1) (q := 45) C dX2_between_44 (by decide) rfl ?_
    refine zg_iload_n (q := 46) C dX2_between_45 rfl rfl ?_
    refine zg_iload (q := 48) C dX2_between_46 rfl rfl ?_
    refine zg_iload (q := 50) C dX2_between_48 rfl rfl ?_
    refine zg_imul (q := 51) C dX2_between_50 rfl ?_
    refine zg_iadd (q := 52) C dX2_between_51 rfl ?_
    refine zg_ishl (q := 53) C dX2_between_52 rfl ?_
    refine zg_ior (q := 54) C dX2_between_53 rfl ?_
    refine zg_istore (q := 56) C dX2_between_54 (by decide) rfl ?_
    refine zg_iinc (v := 1) (q := 59) C dX2_between_56 rfl (by decide) (by decide) rfl ?_
    refine zg_goto (t := 35) C dX2_between_59 (by decide) ?_
    exact zg_mask [true, true, false, false, true, true, true, true] v
theorem rnX2_between {E : Wd} {d : Nat} {a0 : Nat} {x1 : Int32} {x2 : Int32} {x3 : Int32} {h : Hp} {Q : Int32 → Hp → Prop} (k : ∀ (K35 : Nat → Int32 → Int32 → Int32 → Int32 → Int32 → Hp → Prop),(∀ (a0 : Nat) (x1 : Int32) (x4 : Int32) (x5 : Int32) (x6 : Int32) (x7 : Int32) h, vcX2_between_35 E d K35 a0 x1 x4 x5 x6 x7 h Q → K35 a0 x1 x4 x5 x6 x7 h) → vcX2_between_0 E d K35 a0 x1 x2 x3 h Q) : OkI E YX2_between (d + 1) [.ref a0, .int x1, .int x2, .int x3] h Q :=
  zz_body2 (r := 4) mX2_between (zc_a (zc_i (zc_i (zc_i zc_n)))) (Nat.le_of_ble_eq_true rfl) (fun X C => zsX2_between_0 C a0 x1 x2 x3 h (k (zkX2_between_35 E X) (fun a0 x1 x4 x5 x6 x7 h v => zsX2_between_35 C a0 x1 x4 x5 x6 x7 h v)))
def vcX2_direction_0 (E : Wd) (d : Nat) (x0 : Int32) (h : Hp) (Q : Int32 → Hp → Prop) : Prop :=
  (x0 ≤ (0 : Int32) → ((0 : Int32) ≤ x0 → Q 0 h) ∧ (¬ (0 : Int32) ≤ x0 → Q ((-1)) h)) ∧ (¬ x0 ≤ (0 : Int32) → Q 1 h)
set_option maxRecDepth 100000 in
set_option maxHeartbeats 4000000 in
theorem zsX2_direction_0 {E : Wd} {X : Mx} {d : Nat} {Q : Int32 → Hp → Prop} (C : zz_C E X YX2_direction d 0 0 (fun r h' => ∃ x : Int32, r = some (.int x) ∧ Q x h')) (x0 : Int32) (h : Hp) (v : vcX2_direction_0 E d x0 h Q) : GG E X 1 0 0 0 [some (.int x0)] [] h := by
  refine zg_iload_n (q := 1) C dX2_direction_0 rfl rfl ?_
  refine zg_if_le (t := 8) (q := 4) C dX2_direction_1 (by decide) rfl (fun c => ?_) (fun c => ?_)
  · have v := v.1 c
    refine zg_iload_n (q := 9) C dX2_direction_8 rfl rfl ?_
    refine zg_if_ge (t := 16) (q := 12) C dX2_direction_9 (by decide) rfl (fun c => ?_) (fun c => ?_)
    · have v := v.1 c
      refine zg_iconst (v := 0) (q := 17) C dX2_direction_16 (by decide) rfl ?_
      exact zg_iret C rfl dX2_direction_17 ⟨Nat.le_refl _, Nat.le_refl _⟩ ⟨_, rfl, v⟩
    · have v := v.2 c
      refine zg_iconst (v := (-1)) (q := 13) C dX2_direction_12 (by decide) rfl ?_
      refine zg_goto (t := 17) C dX2_direction_13 (by decide) ?_
      exact zg_iret C rfl dX2_direction_17 ⟨Nat.le_refl _, Nat.le_refl _⟩ ⟨_, rfl, v⟩
  · have v := v.2 c
    refine zg_iconst (v := 1) (q := 5) C dX2_direction_4 (by decide) rfl ?_
    refine zg_goto (t := 17) C dX2_direction_5 (by decide) ?_
    exact zg_iret C rfl dX2_direction_17 ⟨Nat.le_refl _, Nat.le_refl _⟩ ⟨_, rfl, v⟩
theorem rnX2_direction {E : Wd} {d : Nat} {x0 : Int32} {h : Hp} {Q : Int32 → Hp → Prop} (k : vcX2_direction_0 E d x0 h Q) : OkI E YX2_direction d [.int x0] h Q :=
  zz_body2 (r := 0) mX2_direction (zc_i zc_n) (Nat.le_of_ble_eq_true rfl) (fun X C => zsX2_direction_0 C x0 h k)
