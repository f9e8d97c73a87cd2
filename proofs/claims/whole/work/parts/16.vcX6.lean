def vcX6_init_0 (E : Wd) (d : Nat) (mc ms : Nat) (a0 : Nat) (h : Hp) (Q : Hp → Prop) : Prop :=
  (1 ≤ mc ∧ 4394 ≤ ms) ∧ ∀ h1, h1 = nA E h 0 4394 → okP h1 a0 6 0 ∧ ∀ h3, h3 = pF h1 a0 0 (.ref (h.1)) → (2 ≤ mc ∧ 8788 ≤ ms) ∧ ∀ h4, h4 = nA E h3 0 4394 → okP h4 a0 6 1 ∧ ∀ h6, h6 = pF h4 a0 1 (.ref (h3.1)) → (3 ≤ mc ∧ 13182 ≤ ms) ∧ ∀ h7, h7 = nA E h6 0 4394 → okP h7 a0 6 2 ∧ ∀ h9, h9 = pF h7 a0 2 (.ref (h6.1)) → (4 ≤ mc ∧ 17576 ≤ ms) ∧ ∀ h10, h10 = nA E h9 0 4394 → okP h10 a0 6 3 ∧ ∀ h12, h12 = pF h10 a0 3 (.ref (h9.1)) → (5 ≤ mc ∧ 21970 ≤ ms) ∧ ∀ h13, h13 = nA E h12 0 4394 → okP h13 a0 6 4 ∧ ∀ h15, h15 = pF h13 a0 4 (.ref (h12.1)) → (6 ≤ mc ∧ 26365 ≤ ms) ∧ ∀ h16, h16 = nA E h15 0 4395 → okP h16 a0 6 5 ∧ ∀ h18, h18 = pF h16 a0 5 (.ref (h15.1)) → (7 ≤ mc ∧ 33565 ≤ ms) ∧ ∀ h19, h19 = nA E h18 0 7200 → okP h19 a0 6 6 ∧ ∀ h21, h21 = pF h19 a0 6 (.ref (h18.1)) → (8 ≤ mc ∧ 33626 ≤ ms) ∧ ∀ h22, h22 = nA E h21 0 61 → okP h22 a0 6 7 ∧ ∀ h24, h24 = pF h22 a0 7 (.ref (h21.1)) → Q h24
set_option maxRecDepth 100000 in
set_option maxHeartbeats 4000000 in
theorem zsX6_init_0 {E : Wd} {X : Mx} {d mc ms : Nat} {Q : Hp → Prop} (C : zz_C E X YX6_init (d + 1) mc ms (fun r h' => r = none ∧ Q h')) (a0 : Nat) (h : Hp) (v : vcX6_init_0 E d mc ms a0 h Q) : GG E X 1 0 0 0 [some (.ref a0)] [] h := by
  refine zg_aload_n (q := 1) C dX6_init_0 rfl rfl ?_
  refine zg_objInit (q := 4) C oiX6 rfl (Nat.le_add_left _ _) (Nat.le_of_ble_eq_true rfl) dX6_init_1 rfl ?_
  refine zg_aload_n (q := 5) C dX6_init_4 rfl rfl ?_
  refine zg_sipush (v := 4394) (q := 8) C dX6_init_5 (by decide) rfl ?_
  refine zg_newI (m := 4394) (q := 10) C ar0 dX6_init_8 rfl (by decide) (by decide) (by decide) v.1 ?_
  have c2 := v.1
  have v := v.2 _ rfl
  refine zg_putF (j := 0) (q := 13) C bX6 (by decide) lkX6_9 dX6_init_10 rfl rfl rfl rfl v.1 rfl rfl ?_
  have v := v.2 _ rfl
  refine zg_aload_n (q := 14) C dX6_init_13 rfl rfl ?_
  refine zg_sipush (v := 4394) (q := 17) C dX6_init_14 (by decide) rfl ?_
  refine zg_newI (m := 4394) (q := 19) C ar0 dX6_init_17 rfl (by decide) (by decide) (by decide) v.1 ?_
  have c5 := v.1
  have v := v.2 _ rfl
  refine zg_putF (j := 1) (q := 22) C bX6 (by decide) lkX6_15 dX6_init_19 rfl rfl rfl rfl v.1 rfl rfl ?_
  have v := v.2 _ rfl
  refine zg_aload_n (q := 23) C dX6_init_22 rfl rfl ?_
  refine zg_sipush (v := 4394) (q := 26) C dX6_init_23 (by decide) rfl ?_
  refine zg_newI (m := 4394) (q := 28) C ar0 dX6_init_26 rfl (by decide) (by decide) (by decide) v.1 ?_
  have c8 := v.1
  have v := v.2 _ rfl
  refine zg_putF (j := 2) (q := 31) C bX6 (by decide) lkX6_18 dX6_init_28 rfl rfl rfl rfl v.1 rfl rfl ?_
  have v := v.2 _ rfl
  refine zg_aload_n (q := 32) C dX6_init_31 rfl rfl ?_
  refine zg_sipush (v := 4394) (q := 35) C dX6_init_32 (by decide) rfl ?_
  refine zg_newI (m := 4394) (q := 37) C ar0 dX6_init_35 rfl (by decide) (by decide) (by decide) v.1 ?_
  have c11 := v.1
  have v := v.2 _ rfl
  refine zg_putF (j := 3) (q := 40) C bX6 (by decide) lkX6_21 dX6_init_37 rfl rfl rfl rfl v.1 rfl rfl ?_
  have v := v.2 _ rfl
  refine zg_aload_n (q := 41) C dX6_init_40 rfl rfl ?_
  refine zg_sipush (v := 4394) (q := 44) C dX6_init_41 (by decide) rfl ?_
  refine zg_newI (m := 4394) (q := 46) C ar0 dX6_init_44 rfl (by decide) (by decide) (by decide) v.1 ?_
  have c14 := v.1
  have v := v.2 _ rfl
  refine zg_putF (j := 4) (q := 49) C bX6 (by decide) lkX6_24 dX6_init_46 rfl rfl rfl rfl v.1 rfl rfl ?_
  have v := v.2 _ rfl
  refine zg_aload_n (q := 50) C dX6_init_49 rfl rfl ?_
  refine zg_sipush (v := 4395) (q := 53) C dX6_init_50 (by decide) rfl ?_
  refine zg_newI (m := 4395) (q := 55) C ar0 dX6_init_53 rfl (by decide) (by decide) (by decide) v.1 ?_
  have c17 := v.1
  have v := v.2 _ rfl
  refine zg_putF (j := 5) (q := 58) C bX6 (by decide) lkX6_27 dX6_init_55 rfl rfl rfl rfl v.1 rfl rfl ?_
  have v := v.2 _ rfl
  refine zg_aload_n (q := 59) C dX6_init_58 rfl rfl ?_
  refine zg_sipush (v := 7200) (q := 62) C dX6_init_59 (by decide) rfl ?_
  refine zg_newI (m := 7200) (q := 64) C ar0 dX6_init_62 rfl (by decide) (by decide) (by decide) v.1 ?_
  have c20 := v.1
  have v := v.2 _ rfl
  refine zg_putF (j := 6) (q := 67) C bX6 (by decide) lkX6_30 dX6_init_64 rfl rfl rfl rfl v.1 rfl rfl ?_
  have v := v.2 _ rfl
  refine zg_aload_n (q := 68) C dX6_init_67 rfl rfl ?_
  refine zg_bipush (v := 61) (q := 70) C dX6_init_68 (by decide) rfl ?_
  refine zg_newI (m := 61) (q := 72) C ar0 dX6_init_70 rfl (by decide) (by decide) (by decide) v.1 ?_
  have c23 := v.1
  have v := v.2 _ rfl
  refine zg_putF (j := 7) (q := 75) C bX6 (by decide) lkX6_33 dX6_init_72 rfl rfl rfl rfl v.1 rfl rfl ?_
  have v := v.2 _ rfl
  exact zg_vret C rfl dX6_init_75 c23 ⟨rfl, v⟩
theorem rnX6_init {E : Wd} {d mc ms : Nat} {a0 : Nat} {h : Hp} {Q : Hp → Prop} (k : vcX6_init_0 E d mc ms a0 h Q) : OkW E YX6_init (d + 1) mc ms [.ref a0] h Q :=
  zz_body2 (r := 0) mX6_init (zc_a zc_n) (Nat.le_of_ble_eq_true rfl) (fun X C => zsX6_init_0 C a0 h k)
def vcX6_build_0 (E : Wd) (d : Nat) (mc ms : Nat) (K53 : Nat → Nat → Nat → Int32 → Int32 → Hp → Prop) (K80 : Nat → Nat → Nat → Int32 → Int32 → Hp → Prop) (a0 : Nat) (a1 : Nat) (h : Hp) (Q : Hp → Prop) : Prop :=
  okP h a0 6 8 ∧ ∀ h1, h1 = pF h a0 8 (.ref a1) → (1 ≤ mc ∧ 3 ≤ ms) ∧ ∀ h2, h2 = nO h1 5 [.null, .null, .int 0] → ∃ c5 s6, (1 + c5 ≤ mc ∧ 3 + s6 ≤ ms) ∧ OkW E YX5_init d c5 s6 [.ref (h1.1), .ref a1] h2 (fun h4 => okP h4 a0 6 9 ∧ ∀ h8, h8 = pF h4 a0 9 (.ref (h1.1)) → ((1 + c5) + 1 ≤ mc ∧ (3 + s6) + 5 ≤ ms) ∧ ∀ h9, h9 = nO h8 1 [.null, .null, .null, .int 0, .int 0] → ∃ c12 s13, ((1 + c5) + 1 + c12 ≤ mc ∧ (3 + s6) + 5 + s13 ≤ ms) ∧ OkW E YX1_init d c12 s13 [.ref (h8.1), .ref a1] h9 (fun h11 => okP h11 a0 6 10 ∧ ∀ h15, h15 = pF h11 a0 10 (.ref (h8.1)) → okI h15 a1 4 10 ∧ okP h15 a0 6 12 ∧ ∀ h16, h16 = pF h15 a0 12 (.int (fI h15 a1 10)) → isO h16 a0 6 ∧ OkV E YX6_findPositions d [.ref a0] h16 (fun h17 => isO h17 a0 6 ∧ OkV E YX6_findSteps d [.ref a0] h17 (fun h18 => isO h18 a0 6 ∧ OkV E YX6_findEnds d [.ref a0] h18 (fun h19 => K53 (((1 + c5) + 1 + c12)) (((3 + s6) + 5 + s13)) a0 1 1 h19)))))
def vcX6_build_53 (E : Wd) (d : Nat) (mc ms : Nat) (K53 : Nat → Nat → Nat → Int32 → Int32 → Hp → Prop) (K80 : Nat → Nat → Nat → Int32 → Int32 → Hp → Prop) (kc nc : Nat) (a0 : Nat) (x2 : Int32) (x3 : Int32) (h : Hp) (Q : Hp → Prop) : Prop :=
  (kc ≤ mc ∧ nc ≤ ms) ∧ (x2 = (0 : Int32) → K80 kc nc a0 1 1 h) ∧ (¬ x2 = (0 : Int32) → ((4394 : Int32) ≤ x3 → K80 kc nc a0 1 1 h) ∧ (¬ (4394 : Int32) ≤ x3 → isO h a0 6 ∧ OkI E YX6_findValues d [.ref a0, .int x3] h (fun r2 h1 => K53 kc nc a0 r2 (x3 + 1) h1)))
def vcX6_build_80 (E : Wd) (d : Nat) (mc ms : Nat) (K53 : Nat → Nat → Nat → Int32 → Int32 → Hp → Prop) (K80 : Nat → Nat → Nat → Int32 → Int32 → Hp → Prop) (kc nc : Nat) (a0 : Nat) (x2 : Int32) (x3 : Int32) (h : Hp) (Q : Hp → Prop) : Prop :=
  (kc ≤ mc ∧ nc ≤ ms) ∧ (x2 = (0 : Int32) → isO h a0 6 ∧ OkV E YX6_shareWithImages d [.ref a0] h (fun h1 => Q h1)) ∧ (¬ x2 = (0 : Int32) → ((4394 : Int32) ≤ x3 → isO h a0 6 ∧ OkV E YX6_shareWithImages d [.ref a0] h (fun h2 => Q h2)) ∧ (¬ (4394 : Int32) ≤ x3 → isO h a0 6 ∧ OkI E YX6_findConversions d [.ref a0, .int x3] h (fun r4 h3 => K80 kc nc a0 r4 (x3 + 1) h3)))
def zkX6_build_53 (E : Wd) (X : Mx) : Nat → Nat → Nat → Int32 → Int32 → Hp → Prop := fun kc nc a0 x2 x3 h => GG E X 4 kc nc 53 [some (.ref a0), none, some (.int x2), some (.int x3)] [] h
def zkX6_build_80 (E : Wd) (X : Mx) : Nat → Nat → Nat → Int32 → Int32 → Hp → Prop := fun kc nc a0 x2 x3 h => GG E X 4 kc nc 80 [some (.ref a0), none, some (.int x2), some (.int x3)] [] h
set_option maxRecDepth 100000 in
set_option maxHeartbeats 4000000 in
theorem zsX6_build_0 {E : Wd} {X : Mx} {d mc ms : Nat} {Q : Hp → Prop} (C : zz_C E X YX6_build (d + 1) mc ms (fun r h' => r = none ∧ Q h')) (a0 : Nat) (a1 : Nat) (h : Hp) (v : vcX6_build_0 E d mc ms (zkX6_build_53 E X) (zkX6_build_80 E X) a0 a1 h Q) : GG E X 4 0 0 0 [some (.ref a0), some (.ref a1), none, none] [] h := by
  refine zg_aload_n (q := 1) C dX6_build_0 rfl rfl ?_
  refine zg_aload_n (q := 2) C dX6_build_1 rfl rfl ?_
  refine zg_put (j := 8) (q := 5) C bX6 (by decide) lkX6_36 dX6_build_2 rfl rfl v.1 rfl rfl ?_
  have v := v.2 _ rfl
  refine zg_aload_n (q := 6) C dX6_build_5 rfl rfl ?_
  refine zg_new (q := 9) (fs := [.null, .null, .int 0]) C bX5 nwX6_40 (by intro j hj; match j, hj with | 0, _ => rfl | 1, _ => rfl | 2, _ => rfl) dX6_build_6 rfl v.1 ?_
  have c3 := v.1
  have v := v.2 _ rfl
  refine zg_dup (q := 10) C dX6_build_9 rfl rfl ?_
  refine zg_aload_n (q := 11) C dX6_build_10 rfl rfl ?_
  obtain ⟨c5, s6, g7, v⟩ := v
  refine zg_cI1W (q := 14) C mX5_init iX5_init rfl lmX6_42 rfl (Nat.le_of_ble_eq_true rfl) g7 dX6_build_11 rfl v (fun h4 v => ?_)
  refine zg_put (j := 9) (q := 17) C bX6 (by decide) lkX6_45 dX6_build_14 rfl rfl v.1 rfl rfl ?_
  have v := v.2 _ rfl
  refine zg_aload_n (q := 18) C dX6_build_17 rfl rfl ?_
  refine zg_new (q := 21) (fs := [.null, .null, .null, .int 0, .int 0]) C bX1 nwX6_49 (by intro j hj; match j, hj with | 0, _ => rfl | 1, _ => rfl | 2, _ => rfl | 3, _ => rfl | 4, _ => rfl) dX6_build_18 rfl v.1 ?_
  have c10 := v.1
  have v := v.2 _ rfl
  refine zg_dup (q := 22) C dX6_build_21 rfl rfl ?_
  refine zg_aload_n (q := 23) C dX6_build_22 rfl rfl ?_
  obtain ⟨c12, s13, g14, v⟩ := v
  refine zg_cI1W (q := 26) C mX1_init iX1_init rfl lmX6_51 rfl (Nat.le_of_ble_eq_true rfl) g14 dX6_build_23 rfl v (fun h11 v => ?_)
  refine zg_put (j := 10) (q := 29) C bX6 (by decide) lkX6_52 dX6_build_26 rfl rfl v.1 rfl rfl ?_
  have v := v.2 _ rfl
  refine zg_aload_n (q := 30) C dX6_build_29 rfl rfl ?_
  refine zg_aload_n (q := 31) C dX6_build_30 rfl rfl ?_
  refine zg_getN (j := 10) (q := 34) C bX4 (by decide) lkX6_56 dX6_build_31 rfl (okI.get v.1) ?_
  have v := v.2
  refine zg_put (j := 12) (q := 37) C bX6 (by decide) lkX6_62 dX6_build_34 rfl rfl v.1 rfl rfl ?_
  have v := v.2 _ rfl
  refine zg_aload_n (q := 38) C dX6_build_37 rfl rfl ?_
  refine zg_cV0V (q := 41) C mX6_findPositions vX6_findPositions lmX6_63 rfl (bX6).1 v.1 (Nat.le_of_ble_eq_true rfl) g14 dX6_build_38 rfl v.2 (fun h17 v => ?_)
  refine zg_aload_n (q := 42) C dX6_build_41 rfl rfl ?_
  refine zg_cV0V (q := 45) C mX6_findSteps vX6_findSteps lmX6_66 rfl (bX6).1 v.1 (Nat.le_of_ble_eq_true rfl) g14 dX6_build_42 rfl v.2 (fun h18 v => ?_)
  refine zg_aload_n (q := 46) C dX6_build_45 rfl rfl ?_
  refine zg_cV0V (q := 49) C mX6_findEnds vX6_findEnds lmX6_69 rfl (bX6).1 v.1 (Nat.le_of_ble_eq_true rfl) g14 dX6_build_46 rfl v.2 (fun h19 v => ?_)
  refine zg_iconst (v := 1) (q := 50) C dX6_build_49 (by decide) rfl ?_
  refine zg_istore_n (q := 51) C dX6_build_50 (by decide) rfl ?_
  refine zg_iconst (v := 1) (q := 52) C dX6_build_51 (by decide) rfl ?_
  refine zg_istore_n (q := 53) C dX6_build_52 (by decide) rfl ?_
  exact zg_mask [true, false, true, true] v
set_option maxRecDepth 100000 in
set_option maxHeartbeats 4000000 in
theorem zsX6_build_53 {E : Wd} {X : Mx} {d mc ms : Nat} {Q : Hp → Prop} (C : zz_C E X YX6_build (d + 1) mc ms (fun r h' => r = none ∧ Q h')) (kc nc : Nat) (a0 : Nat) (x2 : Int32) (x3 : Int32) (h : Hp) (v : vcX6_build_53 E d mc ms (zkX6_build_53 E X) (zkX6_build_80 E X) kc nc a0 x2 x3 h Q) : GG E X 4 kc nc 53 [some (.ref a0), none, some (.int x2), some (.int x3)] [] h := by
  have hc := v.1
  have v := v.2
  refine zg_iload_n (q := 54) C dX6_build_53 rfl rfl ?_
  refine zg_if_eq (t := 76) (q := 57) C dX6_build_54 (by decide) rfl (fun c => ?_) (fun c => ?_)
  · have v := v.1 c
    refine zg_iconst (v := 1) (q := 77) C dX6_build_76 (by decide) rfl ?_
    refine zg_istore_n (q := 78) C dX6_build_77 (by decide) rfl ?_
    refine zg_iconst (v := 1) (q := 79) C dX6_build_78 (by decide) rfl ?_
    refine zg_istore_n (q := 80) C dX6_build_79 (by decide) rfl ?_
    exact zg_mask [true, false, true, true] v
  · have v := v.2 c
    refine zg_iload_n (q := 58) C dX6_build_57 rfl rfl ?_
    refine zg_sipush (v := 4394) (q := 61) C dX6_build_58 (by decide) rfl ?_
    refine zg_icmp_ge (t := 76) (q := 64) C dX6_build_61 (by decide) rfl (fun c => ?_) (fun c => ?_)
    · have v := v.1 c
      refine zg_iconst (v := 1) (q := 77) C dX6_build_76 (by decide) rfl ?_
      refine zg_istore_n (q := 78) C dX6_build_77 (by decide) rfl ?_
      refine zg_iconst (v := 1) (q := 79) C dX6_build_78 (by decide) rfl ?_
      refine zg_istore_n (q := 80) C dX6_build_79 (by decide) rfl ?_
      exact zg_mask [true, false, true, true] v
    · have v := v.2 c
      refine zg_aload_n (q := 65) C dX6_build_64 rfl rfl ?_
      refine zg_iload_n (q := 66) C dX6_build_65 rfl rfl ?_
      refine zg_cV1I (q := 69) C mX6_findValues vX6_findValues lmX6_72 rfl (bX6).1 v.1 (Nat.le_of_ble_eq_true rfl) hc dX6_build_66 rfl v.2 (fun r2 h1 v => ?_)
      refine zg_istore_n (q := 70) C dX6_build_69 (by decide) rfl ?_
      refine zg_iinc (v := 1) (q := 73) C dX6_build_70 rfl (by decide) (by decide) rfl ?_
      refine zg_goto (t := 53) C dX6_build_73 (by decide) ?_
      exact zg_mask [true, false, true, true] v
set_option maxRecDepth 100000 in
set_option maxHeartbeats 4000000 in
theorem zsX6_build_80 {E : Wd} {X : Mx} {d mc ms : Nat} {Q : Hp → Prop} (C : zz_C E X YX6_build (d + 1) mc ms (fun r h' => r = none ∧ Q h')) (kc nc : Nat) (a0 : Nat) (x2 : Int32) (x3 : Int32) (h : Hp) (v : vcX6_build_80 E d mc ms (zkX6_build_53 E X) (zkX6_build_80 E X) kc nc a0 x2 x3 h Q) : GG E X 4 kc nc 80 [some (.ref a0), none, some (.int x2), some (.int x3)] [] h := by
  have hc := v.1
  have v := v.2
  refine zg_iload_n (q := 81) C dX6_build_80 rfl rfl ?_
  refine zg_if_eq (t := 103) (q := 84) C dX6_build_81 (by decide) rfl (fun c => ?_) (fun c => ?_)
  · have v := v.1 c
    refine zg_aload_n (q := 104) C dX6_build_103 rfl rfl ?_
    refine zg_cV0V (q := 107) C mX6_shareWithImages vX6_shareWithImages lmX6_79 rfl (bX6).1 v.1 (Nat.le_of_ble_eq_true rfl) hc dX6_build_104 rfl v.2 (fun h1 v => ?_)
    exact zg_vret C rfl dX6_build_107 hc ⟨rfl, v⟩
  · have v := v.2 c
    refine zg_iload_n (q := 85) C dX6_build_84 rfl rfl ?_
    refine zg_sipush (v := 4394) (q := 88) C dX6_build_85 (by decide) rfl ?_
    refine zg_icmp_ge (t := 103) (q := 91) C dX6_build_88 (by decide) rfl (fun c => ?_) (fun c => ?_)
    · have v := v.1 c
      refine zg_aload_n (q := 104) C dX6_build_103 rfl rfl ?_
      refine zg_cV0V (q := 107) C mX6_shareWithImages vX6_shareWithImages lmX6_79 rfl (bX6).1 v.1 (Nat.le_of_ble_eq_true rfl) hc dX6_build_104 rfl v.2 (fun h2 v => ?_)
      exact zg_vret C rfl dX6_build_107 hc ⟨rfl, v⟩
    · have v := v.2 c
      refine zg_aload_n (q := 92) C dX6_build_91 rfl rfl ?_
      refine zg_iload_n (q := 93) C dX6_build_92 rfl rfl ?_
      refine zg_cV1I (q := 96) C mX6_findConversions vX6_findConversions lmX6_76 rfl (bX6).1 v.1 (Nat.le_of_ble_eq_true rfl) hc dX6_build_93 rfl v.2 (fun r4 h3 v => ?_)
      refine zg_istore_n (q := 97) C dX6_build_96 (by decide) rfl ?_
      refine zg_iinc (v := 1) (q := 100) C dX6_build_97 rfl (by decide) (by decide) rfl ?_
      refine zg_goto (t := 80) C dX6_build_100 (by decide) ?_
      exact zg_mask [true, false, true, true] v
theorem rnX6_build {E : Wd} {d mc ms : Nat} {a0 : Nat} {a1 : Nat} {h : Hp} {Q : Hp → Prop} (k : ∀ (K53 : Nat → Nat → Nat → Int32 → Int32 → Hp → Prop) (K80 : Nat → Nat → Nat → Int32 → Int32 → Hp → Prop),(∀ (kc : Nat) (nc : Nat) (a0 : Nat) (x2 : Int32) (x3 : Int32) h, vcX6_build_53 E d mc ms K53 K80 kc nc a0 x2 x3 h Q → K53 kc nc a0 x2 x3 h) → (∀ (kc : Nat) (nc : Nat) (a0 : Nat) (x2 : Int32) (x3 : Int32) h, vcX6_build_80 E d mc ms K53 K80 kc nc a0 x2 x3 h Q → K80 kc nc a0 x2 x3 h) → vcX6_build_0 E d mc ms K53 K80 a0 a1 h Q) : OkW E YX6_build (d + 1) mc ms [.ref a0, .ref a1] h Q :=
  zz_body2 (r := 2) mX6_build (zc_a (zc_a zc_n)) (Nat.le_of_ble_eq_true rfl) (fun X C => zsX6_build_0 C a0 a1 h (k (zkX6_build_53 E X) (zkX6_build_80 E X) (fun kc nc a0 x2 x3 h v => zsX6_build_53 C kc nc a0 x2 x3 h v) (fun kc nc a0 x2 x3 h v => zsX6_build_80 C kc nc a0 x2 x3 h v)))
def vcX6_findPositions_0 (E : Wd) (d : Nat) (K7 : Nat → Int32 → Hp → Prop) (a0 : Nat) (h : Hp) (Q : Hp → Prop) : Prop :=
  okP h a0 6 11 ∧ ∀ h1, h1 = pF h a0 11 (.int 0) → K7 a0 0 h1
def vcX6_findPositions_7 (E : Wd) (d : Nat) (K7 : Nat → Int32 → Hp → Prop) (a0 : Nat) (x1 : Int32) (h : Hp) (Q : Hp → Prop) : Prop :=
  okI h a0 6 12 ∧ ((fI h a0 12) ≤ x1 → Q h) ∧ (¬ (fI h a0 12) ≤ x1 → okA h a0 6 10 ∧ isO h (fA h a0 10) 1 ∧ OkV E YX1_read d [.ref (fA h a0 10), .int x1] h (fun h1 => okA h1 a0 6 1 ∧ okA h1 a0 6 10 ∧ isO h1 (fA h1 a0 10) 1 ∧ OkI E YX1_missing d [.ref (fA h1 a0 10)] h1 (fun r3 h2 => okR E h2 (fA h1 a0 1) 0 x1 ∧ ∀ h4, h4 = sA h2 (fA h1 a0 1) x1 r3 → okA h4 a0 6 0 ∧ okR E h4 (fA h4 a0 0) 0 x1 ∧ ∀ h5, h5 = sA h4 (fA h4 a0 0) x1 ((-1)) → okA h5 a0 6 10 ∧ isO h5 (fA h5 a0 10) 1 ∧ OkI E YX1_isPossible d [.ref (fA h5 a0 10)] h5 (fun r7 h6 => (¬ r7 = (0 : Int32) → okA h6 a0 6 0 ∧ okA h6 a0 6 9 ∧ isO h6 (fA h6 a0 9) 5 ∧ OkI E YX5_leastImage d [.ref (fA h6 a0 9), .int x1] h6 (fun r9 h8 => okR E h8 (fA h6 a0 0) 0 x1 ∧ ∀ h10, h10 = sA h8 (fA h6 a0 0) x1 r9 → okI h10 a0 6 11 ∧ okP h10 a0 6 11 ∧ ∀ h11, h11 = pF h10 a0 11 (.int ((fI h10 a0 11) + (1 : Int32))) → K7 a0 (x1 + 1) h11)) ∧ (r7 = (0 : Int32) → K7 a0 (x1 + 1) h6)))))
def zkX6_findPositions_7 (E : Wd) (X : Mx) : Nat → Int32 → Hp → Prop := fun a0 x1 h => GG E X 2 0 0 7 [some (.ref a0), some (.int x1)] [] h
set_option maxRecDepth 100000 in
set_option maxHeartbeats 4000000 in
theorem zsX6_findPositions_0 {E : Wd} {X : Mx} {d : Nat} {Q : Hp → Prop} (C : zz_C E X YX6_findPositions (d + 1) 0 0 (fun r h' => r = none ∧ Q h')) (a0 : Nat) (h : Hp) (v : vcX6_findPositions_0 E d (zkX6_findPositions_7 E X) a0 h Q) : GG E X 2 0 0 0 [some (.ref a0), none] [] h := by
  refine zg_aload_n (q := 1) C dX6_findPositions_0 rfl rfl ?_
  refine zg_iconst (v := 0) (q := 2) C dX6_findPositions_1 (by decide) rfl ?_
  refine zg_put (j := 11) (q := 5) C bX6 (by decide) lkX6_82 dX6_findPositions_2 rfl rfl v.1 rfl rfl ?_
  have v := v.2 _ rfl
  refine zg_iconst (v := 0) (q := 6) C dX6_findPositions_5 (by decide) rfl ?_
  refine zg_istore_n (q := 7) C dX6_findPositions_6 (by decide) rfl ?_
  exact zg_mask [true, true] v
set_option maxRecDepth 100000 in
set_option maxHeartbeats 4000000 in
theorem zsX6_findPositions_7 {E : Wd} {X : Mx} {d : Nat} {Q : Hp → Prop} (C : zz_C E X YX6_findPositions (d + 1) 0 0 (fun r h' => r = none ∧ Q h')) (a0 : Nat) (x1 : Int32) (h : Hp) (v : vcX6_findPositions_7 E d (zkX6_findPositions_7 E X) a0 x1 h Q) : GG E X 2 0 0 7 [some (.ref a0), some (.int x1)] [] h := by
  refine zg_iload_n (q := 8) C dX6_findPositions_7 rfl rfl ?_
  refine zg_aload_n (q := 9) C dX6_findPositions_8 rfl rfl ?_
  refine zg_get (j := 12) (q := 12) C bX6 (by decide) lkX6_62 dX6_findPositions_9 rfl (okI.get v.1) ?_
  have v := v.2
  refine zg_icmp_ge (t := 86) (q := 15) C dX6_findPositions_12 (by decide) rfl (fun c => ?_) (fun c => ?_)
  · have v := v.1 c
    exact zg_vret C rfl dX6_findPositions_86 ⟨Nat.le_refl _, Nat.le_refl _⟩ ⟨rfl, v⟩
  · have v := v.2 c
    refine zg_aload_n (q := 16) C dX6_findPositions_15 rfl rfl ?_
    refine zg_get (j := 10) (q := 19) C bX6 (by decide) lkX6_52 dX6_findPositions_16 rfl (okA.get v.1) ?_
    have v := v.2
    refine zg_iload_n (q := 20) C dX6_findPositions_19 rfl rfl ?_
    refine zg_cV1V (q := 23) C mX1_read vX1_read lmX6_85 rfl (bX1).1 v.1 (Nat.le_of_ble_eq_true rfl) ⟨Nat.le_refl _, Nat.le_refl _⟩ dX6_findPositions_20 rfl v.2 (fun h1 v => ?_)
    refine zg_aload_n (q := 24) C dX6_findPositions_23 rfl rfl ?_
    refine zg_get (j := 1) (q := 27) C bX6 (by decide) lkX6_15 dX6_findPositions_24 rfl (okA.get v.1) ?_
    have v := v.2
    refine zg_iload_n (q := 28) C dX6_findPositions_27 rfl rfl ?_
    refine zg_aload_n (q := 29) C dX6_findPositions_28 rfl rfl ?_
    refine zg_get (j := 10) (q := 32) C bX6 (by decide) lkX6_52 dX6_findPositions_29 rfl (okA.get v.1) ?_
    have v := v.2
    refine zg_cV0I (q := 35) C mX1_missing vX1_missing lmX6_89 rfl (bX1).1 v.1 (Nat.le_of_ble_eq_true rfl) ⟨Nat.le_refl _, Nat.le_refl _⟩ dX6_findPositions_32 rfl v.2 (fun r3 h2 v => ?_)
    refine zg_iast (q := 36) C dX6_findPositions_35 rfl v.1 ?_
    have v := v.2 _ rfl
    refine zg_aload_n (q := 37) C dX6_findPositions_36 rfl rfl ?_
    refine zg_get (j := 0) (q := 40) C bX6 (by decide) lkX6_9 dX6_findPositions_37 rfl (okA.get v.1) ?_
    have v := v.2
    refine zg_iload_n (q := 41) C dX6_findPositions_40 rfl rfl ?_
    refine zg_iconst (v := (-1)) (q := 42) C dX6_findPositions_41 (by decide) rfl ?_
    refine zg_iast (q := 43) C dX6_findPositions_42 rfl v.1 ?_
    have v := v.2 _ rfl
    refine zg_aload_n (q := 44) C dX6_findPositions_43 rfl rfl ?_
    refine zg_get (j := 10) (q := 47) C bX6 (by decide) lkX6_52 dX6_findPositions_44 rfl (okA.get v.1) ?_
    have v := v.2
    refine zg_cV0I (q := 50) C mX1_isPossible vX1_isPossible lmX6_93 rfl (bX1).1 v.1 (Nat.le_of_ble_eq_true rfl) ⟨Nat.le_refl _, Nat.le_refl _⟩ dX6_findPositions_47 rfl v.2 (fun r7 h6 v => ?_)
    refine zg_if_ne (t := 56) (q := 53) C dX6_findPositions_50 (by decide) rfl (fun c => ?_) (fun c => ?_)
    · have v := v.1 c
      refine zg_aload_n (q := 57) C dX6_findPositions_56 rfl rfl ?_
      refine zg_get (j := 0) (q := 60) C bX6 (by decide) lkX6_9 dX6_findPositions_57 rfl (okA.get v.1) ?_
      have v := v.2
      refine zg_iload_n (q := 61) C dX6_findPositions_60 rfl rfl ?_
      refine zg_aload_n (q := 62) C dX6_findPositions_61 rfl rfl ?_
      refine zg_get (j := 9) (q := 65) C bX6 (by decide) lkX6_45 dX6_findPositions_62 rfl (okA.get v.1) ?_
      have v := v.2
      refine zg_iload_n (q := 66) C dX6_findPositions_65 rfl rfl ?_
      refine zg_cV1I (q := 69) C mX5_leastImage vX5_leastImage lmX6_97 rfl (bX5).1 v.1 (Nat.le_of_ble_eq_true rfl) ⟨Nat.le_refl _, Nat.le_refl _⟩ dX6_findPositions_66 rfl v.2 (fun r9 h8 v => ?_)
      refine zg_iast (q := 70) C dX6_findPositions_69 rfl v.1 ?_
      have v := v.2 _ rfl
      refine zg_aload_n (q := 71) C dX6_findPositions_70 rfl rfl ?_
      refine zg_dup (q := 72) C dX6_findPositions_71 rfl rfl ?_
      refine zg_get (j := 11) (q := 75) C bX6 (by decide) lkX6_82 dX6_findPositions_72 rfl (okI.get v.1) ?_
      have v := v.2
      refine zg_iconst (v := 1) (q := 76) C dX6_findPositions_75 (by decide) rfl ?_
      refine zg_iadd (q := 77) C dX6_findPositions_76 rfl ?_
      refine zg_put (j := 11) (q := 80) C bX6 (by decide) lkX6_82 dX6_findPositions_77 rfl rfl v.1 rfl rfl ?_
      have v := v.2 _ rfl
      refine zg_iinc (v := 1) (q := 83) C dX6_findPositions_80 rfl (by decide) (by decide) rfl ?_
      refine zg_goto (t := 7) C dX6_findPositions_83 (by decide) ?_
      exact zg_mask [true, true] v
    · have v := v.2 c
      refine zg_goto (t := 80) C dX6_findPositions_53 (by decide) ?_
      refine zg_iinc (v := 1) (q := 83) C dX6_findPositions_80 rfl (by decide) (by decide) rfl ?_
      refine zg_goto (t := 7) C dX6_findPositions_83 (by decide) ?_
      exact zg_mask [true, true] v
theorem rnX6_findPositions {E : Wd} {d : Nat} {a0 : Nat} {h : Hp} {Q : Hp → Prop} (k : ∀ (K7 : Nat → Int32 → Hp → Prop),(∀ (a0 : Nat) (x1 : Int32) h, vcX6_findPositions_7 E d K7 a0 x1 h Q → K7 a0 x1 h) → vcX6_findPositions_0 E d K7 a0 h Q) : OkV E YX6_findPositions (d + 1) [.ref a0] h Q :=
  zz_body2 (r := 1) mX6_findPositions (zc_a zc_n) (Nat.le_of_ble_eq_true rfl) (fun X C => zsX6_findPositions_0 C a0 h (k (zkX6_findPositions_7 E X) (fun a0 x1 h v => zsX6_findPositions_7 C a0 x1 h v)))
def vcX6_findSteps_0 (E : Wd) (d : Nat) (K7 : Nat → Int32 → Hp → Prop) (a0 : Nat) (h : Hp) (Q : Hp → Prop) : Prop :=
  okP h a0 6 13 ∧ ∀ h1, h1 = pF h a0 13 (.int 0) → K7 a0 0 h1
def vcX6_findSteps_7 (E : Wd) (d : Nat) (K7 : Nat → Int32 → Hp → Prop) (a0 : Nat) (x1 : Int32) (h : Hp) (Q : Hp → Prop) : Prop :=
  okI h a0 6 12 ∧ ((fI h a0 12) ≤ x1 → okA h a0 6 5 ∧ okI h a0 6 12 ∧ okI h a0 6 13 ∧ okR E h (fA h a0 5) 0 (fI h a0 12) ∧ ∀ h1, h1 = sA h (fA h a0 5) (fI h a0 12) (fI h a0 13) → Q h1) ∧ (¬ (fI h a0 12) ≤ x1 → okA h a0 6 5 ∧ okI h a0 6 13 ∧ okR E h (fA h a0 5) 0 x1 ∧ ∀ h2, h2 = sA h (fA h a0 5) x1 (fI h a0 13) → okA h2 a0 6 0 ∧ okR E h2 (fA h2 a0 0) 0 x1 ∧ ((gA h2 (fA h2 a0 0) x1) < (0 : Int32) → K7 a0 (x1 + 1) h2) ∧ (¬ (gA h2 (fA h2 a0 0) x1) < (0 : Int32) → isO h2 a0 6 ∧ OkV E YX6_writeSteps d [.ref a0, .int x1] h2 (fun h3 => K7 a0 (x1 + 1) h3)))
def zkX6_findSteps_7 (E : Wd) (X : Mx) : Nat → Int32 → Hp → Prop := fun a0 x1 h => GG E X 2 0 0 7 [some (.ref a0), some (.int x1)] [] h
set_option maxRecDepth 100000 in
set_option maxHeartbeats 4000000 in
theorem zsX6_findSteps_0 {E : Wd} {X : Mx} {d : Nat} {Q : Hp → Prop} (C : zz_C E X YX6_findSteps (d + 1) 0 0 (fun r h' => r = none ∧ Q h')) (a0 : Nat) (h : Hp) (v : vcX6_findSteps_0 E d (zkX6_findSteps_7 E X) a0 h Q) : GG E X 2 0 0 0 [some (.ref a0), none] [] h := by
  refine zg_aload_n (q := 1) C dX6_findSteps_0 rfl rfl ?_
  refine zg_iconst (v := 0) (q := 2) C dX6_findSteps_1 (by decide) rfl ?_
  refine zg_put (j := 13) (q := 5) C bX6 (by decide) lkX6_101 dX6_findSteps_2 rfl rfl v.1 rfl rfl ?_
  have v := v.2 _ rfl
  refine zg_iconst (v := 0) (q := 6) C dX6_findSteps_5 (by decide) rfl ?_
  refine zg_istore_n (q := 7) C dX6_findSteps_6 (by decide) rfl ?_
  exact zg_mask [true, true] v
set_option maxRecDepth 100000 in
set_option maxHeartbeats 4000000 in
theorem zsX6_findSteps_7 {E : Wd} {X : Mx} {d : Nat} {Q : Hp → Prop} (C : zz_C E X YX6_findSteps (d + 1) 0 0 (fun r h' => r = none ∧ Q h')) (a0 : Nat) (x1 : Int32) (h : Hp) (v : vcX6_findSteps_7 E d (zkX6_findSteps_7 E X) a0 x1 h Q) : GG E X 2 0 0 7 [some (.ref a0), some (.int x1)] [] h := by
  refine zg_iload_n (q := 8) C dX6_findSteps_7 rfl rfl ?_
  refine zg_aload_n (q := 9) C dX6_findSteps_8 rfl rfl ?_
  refine zg_get (j := 12) (q := 12) C bX6 (by decide) lkX6_62 dX6_findSteps_9 rfl (okI.get v.1) ?_
  have v := v.2
  refine zg_icmp_ge (t := 45) (q := 15) C dX6_findSteps_12 (by decide) rfl (fun c => ?_) (fun c => ?_)
  · have v := v.1 c
    refine zg_aload_n (q := 46) C dX6_findSteps_45 rfl rfl ?_
    refine zg_get (j := 5) (q := 49) C bX6 (by decide) lkX6_27 dX6_findSteps_46 rfl (okA.get v.1) ?_
    have v := v.2
    refine zg_aload_n (q := 50) C dX6_findSteps_49 rfl rfl ?_
    refine zg_get (j := 12) (q := 53) C bX6 (by decide) lkX6_62 dX6_findSteps_50 rfl (okI.get v.1) ?_
    have v := v.2
    refine zg_aload_n (q := 54) C dX6_findSteps_53 rfl rfl ?_
    refine zg_get (j := 13) (q := 57) C bX6 (by decide) lkX6_101 dX6_findSteps_54 rfl (okI.get v.1) ?_
    have v := v.2
    refine zg_iast (q := 58) C dX6_findSteps_57 rfl v.1 ?_
    have v := v.2 _ rfl
    exact zg_vret C rfl dX6_findSteps_58 ⟨Nat.le_refl _, Nat.le_refl _⟩ ⟨rfl, v⟩
  · have v := v.2 c
    refine zg_aload_n (q := 16) C dX6_findSteps_15 rfl rfl ?_
    refine zg_get (j := 5) (q := 19) C bX6 (by decide) lkX6_27 dX6_findSteps_16 rfl (okA.get v.1) ?_
    have v := v.2
    refine zg_iload_n (q := 20) C dX6_findSteps_19 rfl rfl ?_
    refine zg_aload_n (q := 21) C dX6_findSteps_20 rfl rfl ?_
    refine zg_get (j := 13) (q := 24) C bX6 (by decide) lkX6_101 dX6_findSteps_21 rfl (okI.get v.1) ?_
    have v := v.2
    refine zg_iast (q := 25) C dX6_findSteps_24 rfl v.1 ?_
    have v := v.2 _ rfl
    refine zg_aload_n (q := 26) C dX6_findSteps_25 rfl rfl ?_
    refine zg_get (j := 0) (q := 29) C bX6 (by decide) lkX6_9 dX6_findSteps_26 rfl (okA.get v.1) ?_
    have v := v.2
    refine zg_iload_n (q := 30) C dX6_findSteps_29 rfl rfl ?_
    refine zg_iald (q := 31) C dX6_findSteps_30 rfl v.1 ?_
    have v := v.2
    refine zg_if_lt (t := 39) (q := 34) C dX6_findSteps_31 (by decide) rfl (fun c => ?_) (fun c => ?_)
    · have v := v.1 c
      refine zg_iinc (v := 1) (q := 42) C dX6_findSteps_39 rfl (by decide) (by decide) rfl ?_
      refine zg_goto (t := 7) C dX6_findSteps_42 (by decide) ?_
      exact zg_mask [true, true] v
    · have v := v.2 c
      refine zg_aload_n (q := 35) C dX6_findSteps_34 rfl rfl ?_
      refine zg_iload_n (q := 36) C dX6_findSteps_35 rfl rfl ?_
      refine zg_cV1V (q := 39) C mX6_writeSteps vX6_writeSteps lmX6_104 rfl (bX6).1 v.1 (Nat.le_of_ble_eq_true rfl) ⟨Nat.le_refl _, Nat.le_refl _⟩ dX6_findSteps_36 rfl v.2 (fun h3 v => ?_)
      refine zg_iinc (v := 1) (q := 42) C dX6_findSteps_39 rfl (by decide) (by decide) rfl ?_
      refine zg_goto (t := 7) C dX6_findSteps_42 (by decide) ?_
      exact zg_mask [true, true] v
theorem rnX6_findSteps {E : Wd} {d : Nat} {a0 : Nat} {h : Hp} {Q : Hp → Prop} (k : ∀ (K7 : Nat → Int32 → Hp → Prop),(∀ (a0 : Nat) (x1 : Int32) h, vcX6_findSteps_7 E d K7 a0 x1 h Q → K7 a0 x1 h) → vcX6_findSteps_0 E d K7 a0 h Q) : OkV E YX6_findSteps (d + 1) [.ref a0] h Q :=
  zz_body2 (r := 1) mX6_findSteps (zc_a zc_n) (Nat.le_of_ble_eq_true rfl) (fun X C => zsX6_findSteps_0 C a0 h (k (zkX6_findSteps_7 E X) (fun a0 x1 h v => zsX6_findSteps_7 C a0 x1 h v)))
def vcX6_writeSteps_0 (E : Wd) (d : Nat) (K21 : Nat → Int32 → Int32 → Hp → Prop) (K50 : Nat → Int32 → Int32 → Int32 → Hp → Prop) (a0 : Nat) (x1 : Int32) (h : Hp) (Q : Hp → Prop) : Prop :=
  okA h a0 6 10 ∧ isO h (fA h a0 10) 1 ∧ OkV E YX1_read d [.ref (fA h a0 10), .int x1] h (fun h1 => okA h1 a0 6 8 ∧ isO h1 (fA h1 a0 8) 4 ∧ OkI E YX4_firstMan d [.ref (fA h1 a0 8), .int (x1 &&& (1 : Int32))] h1 (fun r3 h2 => K21 a0 (x1 &&& (1 : Int32)) r3 h2))
def vcX6_writeSteps_21 (E : Wd) (d : Nat) (K21 : Nat → Int32 → Int32 → Hp → Prop) (K50 : Nat → Int32 → Int32 → Int32 → Hp → Prop) (a0 : Nat) (x2 : Int32) (x3 : Int32) (h : Hp) (Q : Hp → Prop) : Prop :=
  okA h a0 6 8 ∧ isO h (fA h a0 8) 4 ∧ OkI E YX4_endOfMen d [.ref (fA h a0 8), .int x2] h (fun r2 h1 => (r2 ≤ x3 → Q h1) ∧ (¬ r2 ≤ x3 → okA h1 a0 6 10 ∧ isO h1 (fA h1 a0 10) 1 ∧ OkI E YX1_isOnBoard d [.ref (fA h1 a0 10), .int x3] h1 (fun r4 h3 => (¬ r4 = (0 : Int32) → K50 a0 x2 x3 0 h3) ∧ (r4 = (0 : Int32) → K21 a0 x2 (x3 + 1) h3))))
def vcX6_writeSteps_50 (E : Wd) (d : Nat) (K21 : Nat → Int32 → Int32 → Hp → Prop) (K50 : Nat → Int32 → Int32 → Int32 → Hp → Prop) (a0 : Nat) (x2 : Int32) (x3 : Int32) (x4 : Int32) (h : Hp) (Q : Hp → Prop) : Prop :=
  okA h a0 6 8 ∧ okI h (fA h a0 8) 4 2 ∧ ((fI h (fA h a0 8) 2) ≤ x4 → K21 a0 x2 (x3 + 1) h) ∧ (¬ (fI h (fA h a0 8) 2) ≤ x4 → okA h a0 6 10 ∧ isO h (fA h a0 10) 1 ∧ OkI E YX1_after d [.ref (fA h a0 10), .int x3, .int x4] h (fun r2 h1 => (r2 < (0 : Int32) → K50 a0 x2 x3 (x4 + 1) h1) ∧ (¬ r2 < (0 : Int32) → okI h1 a0 6 13 ∧ okA h1 a0 6 6 ∧ okL E h1 (fA h1 a0 6) 0 ∧ ((fI h1 a0 13) < (lA h1 (fA h1 a0 6)) → okA h1 a0 6 6 ∧ okI h1 a0 6 13 ∧ okR E h1 (fA h1 a0 6) 0 (fI h1 a0 13) ∧ ∀ h3, h3 = sA h1 (fA h1 a0 6) (fI h1 a0 13) r2 → okI h3 a0 6 13 ∧ okP h3 a0 6 13 ∧ ∀ h4, h4 = pF h3 a0 13 (.int ((fI h3 a0 13) + (1 : Int32))) → K50 a0 x2 x3 (x4 + 1) h4) ∧ (¬ (fI h1 a0 13) < (lA h1 (fA h1 a0 6)) → K50 a0 x2 x3 (x4 + 1) h1))))
def zkX6_writeSteps_21 (E : Wd) (X : Mx) : Nat → Int32 → Int32 → Hp → Prop := fun a0 x2 x3 h => GG E X 6 0 0 21 [some (.ref a0), none, some (.int x2), some (.int x3), none, none] [] h
def zkX6_writeSteps_50 (E : Wd) (X : Mx) : Nat → Int32 → Int32 → Int32 → Hp → Prop := fun a0 x2 x3 x4 h => GG E X 6 0 0 50 [some (.ref a0), none, some (.int x2), some (.int x3), some (.int x4), none] [] h
set_option maxRecDepth 100000 in
set_option maxHeartbeats 4000000 in
theorem zsX6_writeSteps_0 {E : Wd} {X : Mx} {d : Nat} {Q : Hp → Prop} (C : zz_C E X YX6_writeSteps (d + 1) 0 0 (fun r h' => r = none ∧ Q h')) (a0 : Nat) (x1 : Int32) (h : Hp) (v : vcX6_writeSteps_0 E d (zkX6_writeSteps_21 E X) (zkX6_writeSteps_50 E X) a0 x1 h Q) : GG E X 6 0 0 0 [some (.ref a0), some (.int x1), none, none, none, none] [] h := by
  refine zg_aload_n (q := 1) C dX6_writeSteps_0 rfl rfl ?_
  refine zg_get (j := 10) (q := 4) C bX6 (by decide) lkX6_52 dX6_writeSteps_1 rfl (okA.get v.1) ?_
  have v := v.2
  refine zg_iload_n (q := 5) C dX6_writeSteps_4 rfl rfl ?_
  refine zg_cV1V (q := 8) C mX1_read vX1_read lmX6_85 rfl (bX1).1 v.1 (Nat.le_of_ble_eq_true rfl) ⟨Nat.le_refl _, Nat.le_refl _⟩ dX6_writeSteps_5 rfl v.2 (fun h1 v => ?_)
  refine zg_iload_n (q := 9) C dX6_writeSteps_8 rfl rfl ?_
  refine zg_iconst (v := 1) (q := 10) C dX6_writeSteps_9 (by decide) rfl ?_
  refine zg_iand (q := 11) C dX6_writeSteps_10 rfl ?_
  refine zg_istore_n (q := 12) C dX6_writeSteps_11 (by decide) rfl ?_
  refine zg_aload_n (q := 13) C dX6_writeSteps_12 rfl rfl ?_
  refine zg_get (j := 8) (q := 16) C bX6 (by decide) lkX6_36 dX6_writeSteps_13 rfl (okA.get v.1) ?_
  have v := v.2
  refine zg_iload_n (q := 17) C dX6_writeSteps_16 rfl rfl ?_
  refine zg_cV1I (q := 20) C mX4_firstMan vX4_firstMan lmX6_107 rfl (bX4).1 v.1 (Nat.le_of_ble_eq_true rfl) ⟨Nat.le_refl _, Nat.le_refl _⟩ dX6_writeSteps_17 rfl v.2 (fun r3 h2 v => ?_)
  refine zg_istore_n (q := 21) C dX6_writeSteps_20 (by decide) rfl ?_
  exact zg_mask [true, false, true, true, false, false] v
set_option maxRecDepth 100000 in
set_option maxHeartbeats 4000000 in
theorem zsX6_writeSteps_21 {E : Wd} {X : Mx} {d : Nat} {Q : Hp → Prop} (C : zz_C E X YX6_writeSteps (d + 1) 0 0 (fun r h' => r = none ∧ Q h')) (a0 : Nat) (x2 : Int32) (x3 : Int32) (h : Hp) (v : vcX6_writeSteps_21 E d (zkX6_writeSteps_21 E X) (zkX6_writeSteps_50 E X) a0 x2 x3 h Q) : GG E X 6 0 0 21 [some (.ref a0), none, some (.int x2), some (.int x3), none, none] [] h := by
  refine zg_iload_n (q := 22) C dX6_writeSteps_21 rfl rfl ?_
  refine zg_aload_n (q := 23) C dX6_writeSteps_22 rfl rfl ?_
  refine zg_get (j := 8) (q := 26) C bX6 (by decide) lkX6_36 dX6_writeSteps_23 rfl (okA.get v.1) ?_
  have v := v.2
  refine zg_iload_n (q := 27) C dX6_writeSteps_26 rfl rfl ?_
  refine zg_cV1I (q := 30) C mX4_endOfMen vX4_endOfMen lmX6_110 rfl (bX4).1 v.1 (Nat.le_of_ble_eq_true rfl) ⟨Nat.le_refl _, Nat.le_refl _⟩ dX6_writeSteps_27 rfl v.2 (fun r2 h1 v => ?_)
  refine zg_icmp_ge (t := 127) (q := 33) C dX6_writeSteps_30 (by decide) rfl (fun c => ?_) (fun c => ?_)
  · have v := v.1 c
    exact zg_vret C rfl dX6_writeSteps_127 ⟨Nat.le_refl _, Nat.le_refl _⟩ ⟨rfl, v⟩
  · have v := v.2 c
    refine zg_aload_n (q := 34) C dX6_writeSteps_33 rfl rfl ?_
    refine zg_get (j := 10) (q := 37) C bX6 (by decide) lkX6_52 dX6_writeSteps_34 rfl (okA.get v.1) ?_
    have v := v.2
    refine zg_iload_n (q := 38) C dX6_writeSteps_37 rfl rfl ?_
    refine zg_cV1I (q := 41) C mX1_isOnBoard vX1_isOnBoard lmX6_113 rfl (bX1).1 v.1 (Nat.le_of_ble_eq_true rfl) ⟨Nat.le_refl _, Nat.le_refl _⟩ dX6_writeSteps_38 rfl v.2 (fun r4 h3 v => ?_)
    refine zg_if_ne (t := 47) (q := 44) C dX6_writeSteps_41 (by decide) rfl (fun c => ?_) (fun c => ?_)
    · have v := v.1 c
      refine zg_iconst (v := 0) (q := 48) C dX6_writeSteps_47 (by decide) rfl ?_
      refine zg_istore (q := 50) C dX6_writeSteps_48 (by decide) rfl ?_
      exact zg_mask [true, false, true, true, true, false] v
    · have v := v.2 c
      refine zg_goto (t := 121) C dX6_writeSteps_44 (by decide) ?_
      refine zg_iinc (v := 1) (q := 124) C dX6_writeSteps_121 rfl (by decide) (by decide) rfl ?_
      refine zg_goto (t := 21) C dX6_writeSteps_124 (by decide) ?_
      exact zg_mask [true, false, true, true, false, false] v
set_option maxRecDepth 100000 in
set_option maxHeartbeats 4000000 in
theorem zsX6_writeSteps_50 {E : Wd} {X : Mx} {d : Nat} {Q : Hp → Prop} (C : zz_C E X YX6_writeSteps (d + 1) 0 0 (fun r h' => r = none ∧ Q h')) (a0 : Nat) (x2 : Int32) (x3 : Int32) (x4 : Int32) (h : Hp) (v : vcX6_writeSteps_50 E d (zkX6_writeSteps_21 E X) (zkX6_writeSteps_50 E X) a0 x2 x3 x4 h Q) : GG E X 6 0 0 50 [some (.ref a0), none, some (.int x2), some (.int x3), some (.int x4), none] [] h := by
  refine zg_iload (q := 52) C dX6_writeSteps_50 rfl rfl ?_
  refine zg_aload_n (q := 53) C dX6_writeSteps_52 rfl rfl ?_
  refine zg_get (j := 8) (q := 56) C bX6 (by decide) lkX6_36 dX6_writeSteps_53 rfl (okA.get v.1) ?_
  have v := v.2
  refine zg_getN (j := 2) (q := 59) C bX4 (by decide) lkX6_116 dX6_writeSteps_56 rfl (okI.get v.1) ?_
  have v := v.2
  refine zg_icmp_ge (t := 121) (q := 62) C dX6_writeSteps_59 (by decide) rfl (fun c => ?_) (fun c => ?_)
  · have v := v.1 c
    refine zg_iinc (v := 1) (q := 124) C dX6_writeSteps_121 rfl (by decide) (by decide) rfl ?_
    refine zg_goto (t := 21) C dX6_writeSteps_124 (by decide) ?_
    exact zg_mask [true, false, true, true, false, false] v
  · have v := v.2 c
    refine zg_aload_n (q := 63) C dX6_writeSteps_62 rfl rfl ?_
    refine zg_get (j := 10) (q := 66) C bX6 (by decide) lkX6_52 dX6_writeSteps_63 rfl (okA.get v.1) ?_
    have v := v.2
    refine zg_iload_n (q := 67) C dX6_writeSteps_66 rfl rfl ?_
    refine zg_iload (q := 69) C dX6_writeSteps_67 rfl rfl ?_
    refine zg_cV2I (q := 72) C mX1_after vX1_after lmX6_119 rfl (bX1).1 v.1 (Nat.le_of_ble_eq_true rfl) ⟨Nat.le_refl _, Nat.le_refl _⟩ dX6_writeSteps_69 rfl v.2 (fun r2 h1 v => ?_)
    refine zg_istore (q := 74) C dX6_writeSteps_72 (by decide) rfl ?_
    refine zg_iload (q := 76) C dX6_writeSteps_74 rfl rfl ?_
    refine zg_if_lt (t := 115) (q := 79) C dX6_writeSteps_76 (by decide) rfl (fun c => ?_) (fun c => ?_)
    · have v := v.1 c
      refine zg_iinc (v := 1) (q := 118) C dX6_writeSteps_115 rfl (by decide) (by decide) rfl ?_
      refine zg_goto (t := 50) C dX6_writeSteps_118 (by decide) ?_
      exact zg_mask [true, false, true, true, true, false] v
    · have v := v.2 c
      refine zg_aload_n (q := 80) C dX6_writeSteps_79 rfl rfl ?_
      refine zg_get (j := 13) (q := 83) C bX6 (by decide) lkX6_101 dX6_writeSteps_80 rfl (okI.get v.1) ?_
      have v := v.2
      refine zg_aload_n (q := 84) C dX6_writeSteps_83 rfl rfl ?_
      refine zg_get (j := 6) (q := 87) C bX6 (by decide) lkX6_30 dX6_writeSteps_84 rfl (okA.get v.1) ?_
      have v := v.2
      refine zg_alen (t := 0) (q := 88) C (by decide) dX6_writeSteps_87 rfl v.1 ?_
      have v := v.2
      refine zg_icmp_lt (t := 94) (q := 91) C dX6_writeSteps_88 (by decide) rfl (fun c => ?_) (fun c => ?_)
      · have v := v.1 c
        refine zg_aload_n (q := 95) C dX6_writeSteps_94 rfl rfl ?_
        refine zg_get (j := 6) (q := 98) C bX6 (by decide) lkX6_30 dX6_writeSteps_95 rfl (okA.get v.1) ?_
        have v := v.2
        refine zg_aload_n (q := 99) C dX6_writeSteps_98 rfl rfl ?_
        refine zg_get (j := 13) (q := 102) C bX6 (by decide) lkX6_101 dX6_writeSteps_99 rfl (okI.get v.1) ?_
        have v := v.2
        refine zg_iload (q := 104) C dX6_writeSteps_102 rfl rfl ?_
        refine zg_iast (q := 105) C dX6_writeSteps_104 rfl v.1 ?_
        have v := v.2 _ rfl
        refine zg_aload_n (q := 106) C dX6_writeSteps_105 rfl rfl ?_
        refine zg_dup (q := 107) C dX6_writeSteps_106 rfl rfl ?_
        refine zg_get (j := 13) (q := 110) C bX6 (by decide) lkX6_101 dX6_writeSteps_107 rfl (okI.get v.1) ?_
        have v := v.2
        refine zg_iconst (v := 1) (q := 111) C dX6_writeSteps_110 (by decide) rfl ?_
        refine zg_iadd (q := 112) C dX6_writeSteps_111 rfl ?_
        refine zg_put (j := 13) (q := 115) C bX6 (by decide) lkX6_101 dX6_writeSteps_112 rfl rfl v.1 rfl rfl ?_
        have v := v.2 _ rfl
        refine zg_iinc (v := 1) (q := 118) C dX6_writeSteps_115 rfl (by decide) (by decide) rfl ?_
        refine zg_goto (t := 50) C dX6_writeSteps_118 (by decide) ?_
        exact zg_mask [true, false, true, true, true, false] v
      · have v := v.2 c
        refine zg_goto (t := 115) C dX6_writeSteps_91 (by decide) ?_
        refine zg_iinc (v := 1) (q := 118) C dX6_writeSteps_115 rfl (by decide) (by decide) rfl ?_
        refine zg_goto (t := 50) C dX6_writeSteps_118 (by decide) ?_
        exact zg_mask [true, false, true, true, true, false] v
theorem rnX6_writeSteps {E : Wd} {d : Nat} {a0 : Nat} {x1 : Int32} {h : Hp} {Q : Hp → Prop} (k : ∀ (K21 : Nat → Int32 → Int32 → Hp → Prop) (K50 : Nat → Int32 → Int32 → Int32 → Hp → Prop),(∀ (a0 : Nat) (x2 : Int32) (x3 : Int32) h, vcX6_writeSteps_21 E d K21 K50 a0 x2 x3 h Q → K21 a0 x2 x3 h) → (∀ (a0 : Nat) (x2 : Int32) (x3 : Int32) (x4 : Int32) h, vcX6_writeSteps_50 E d K21 K50 a0 x2 x3 x4 h Q → K50 a0 x2 x3 x4 h) → vcX6_writeSteps_0 E d K21 K50 a0 x1 h Q) : OkV E YX6_writeSteps (d + 1) [.ref a0, .int x1] h Q :=
  zz_body2 (r := 4) mX6_writeSteps (zc_a (zc_i zc_n)) (Nat.le_of_ble_eq_true rfl) (fun X C => zsX6_writeSteps_0 C a0 x1 h (k (zkX6_writeSteps_21 E X) (zkX6_writeSteps_50 E X) (fun a0 x2 x3 h v => zsX6_writeSteps_21 C a0 x2 x3 h v) (fun a0 x2 x3 x4 h v => zsX6_writeSteps_50 C a0 x2 x3 x4 h v)))
def vcX6_findEnds_0 (E : Wd) (d : Nat) (K2 : Nat → Int32 → Hp → Prop) (a0 : Nat) (h : Hp) (Q : Hp → Prop) : Prop :=
  K2 a0 0 h
def vcX6_findEnds_62 (E : Wd) (d : Nat) (K2 : Nat → Int32 → Hp → Prop) (a0 : Nat) (x1 : Int32) (s0 : Nat) (s1 : Int32) (s2 : Int32) (h : Hp) (Q : Hp → Prop) : Prop :=
  okR E h s0 0 s1 ∧ ∀ h1, h1 = sA h s0 s1 s2 → okA h1 a0 6 4 ∧ okA h1 a0 6 3 ∧ okR E h1 (fA h1 a0 3) 0 x1 ∧ okR E h1 (fA h1 a0 4) 0 x1 ∧ ∀ h2, h2 = sA h1 (fA h1 a0 4) x1 (gA h1 (fA h1 a0 3) x1) → K2 a0 (x1 + 1) h2
def vcX6_findEnds_41 (E : Wd) (d : Nat) (K2 : Nat → Int32 → Hp → Prop) (a0 : Nat) (x1 : Int32) (s0 : Nat) (s1 : Int32) (s2 : Int32) (h : Hp) (Q : Hp → Prop) : Prop :=
  okR E h s0 0 s1 ∧ ∀ h1, h1 = sA h s0 s1 s2 → okA h1 a0 6 3 ∧ okA h1 a0 6 2 ∧ okR E h1 (fA h1 a0 2) 0 x1 ∧ (¬ (gA h1 (fA h1 a0 2) x1) = (0 : Int32) → vcX6_findEnds_62 E d K2 a0 x1 (fA h1 a0 3) x1 0 h1 Q) ∧ ((gA h1 (fA h1 a0 2) x1) = (0 : Int32) → vcX6_findEnds_62 E d K2 a0 x1 (fA h1 a0 3) x1 ((-5)) h1 Q)
def vcX6_findEnds_40 (E : Wd) (d : Nat) (K2 : Nat → Int32 → Hp → Prop) (a0 : Nat) (x1 : Int32) (s0 : Nat) (s1 : Int32) (h : Hp) (Q : Hp → Prop) : Prop :=
  vcX6_findEnds_41 E d K2 a0 x1 s0 s1 0 h Q
def vcX6_findEnds_2 (E : Wd) (d : Nat) (K2 : Nat → Int32 → Hp → Prop) (a0 : Nat) (x1 : Int32) (h : Hp) (Q : Hp → Prop) : Prop :=
  okI h a0 6 12 ∧ ((fI h a0 12) ≤ x1 → Q h) ∧ (¬ (fI h a0 12) ≤ x1 → okA h a0 6 2 ∧ okA h a0 6 0 ∧ okR E h (fA h a0 0) 0 x1 ∧ ((gA h (fA h a0 0) x1) < (0 : Int32) → vcX6_findEnds_40 E d K2 a0 x1 (fA h a0 2) x1 h Q) ∧ (¬ (gA h (fA h a0 0) x1) < (0 : Int32) → isO h a0 6 ∧ OkI E YX6_isEnd d [.ref a0, .int x1] h (fun r2 h1 => (r2 = (0 : Int32) → vcX6_findEnds_40 E d K2 a0 x1 (fA h a0 2) x1 h1 Q) ∧ (¬ r2 = (0 : Int32) → isO h1 a0 6 ∧ OkI E YX6_endValue d [.ref a0, .int x1] h1 (fun r4 h3 => vcX6_findEnds_41 E d K2 a0 x1 (fA h a0 2) x1 r4 h3 Q)))))
def zkX6_findEnds_2 (E : Wd) (X : Mx) : Nat → Int32 → Hp → Prop := fun a0 x1 h => GG E X 2 0 0 2 [some (.ref a0), some (.int x1)] [] h
set_option maxRecDepth 100000 in
set_option maxHeartbeats 4000000 in
theorem zsX6_findEnds_0 {E : Wd} {X : Mx} {d : Nat} {Q : Hp → Prop} (C : zz_C E X YX6_findEnds (d + 1) 0 0 (fun r h' => r = none ∧ Q h')) (a0 : Nat) (h : Hp) (v : vcX6_findEnds_0 E d (zkX6_findEnds_2 E X) a0 h Q) : GG E X 2 0 0 0 [some (.ref a0), none] [] h := by
  refine zg_iconst (v := 0) (q := 1) C dX6_findEnds_0 (by decide) rfl ?_
  refine zg_istore_n (q := 2) C dX6_findEnds_1 (by decide) rfl ?_
  exact zg_mask [true, true] v
set_option maxRecDepth 100000 in
set_option maxHeartbeats 4000000 in
theorem zsX6_findEnds_62 {E : Wd} {X : Mx} {d : Nat} {Q : Hp → Prop} (C : zz_C E X YX6_findEnds (d + 1) 0 0 (fun r h' => r = none ∧ Q h')) (a0 : Nat) (x1 : Int32) (s0 : Nat) (s1 : Int32) (s2 : Int32) (h : Hp) (v : vcX6_findEnds_62 E d (zkX6_findEnds_2 E X) a0 x1 s0 s1 s2 h Q) : GG E X 2 0 0 62 [some (.ref a0), some (.int x1)] [.int s2, .int s1, .ref s0] h := by
  refine zg_iast (q := 63) C dX6_findEnds_62 rfl v.1 ?_
  have v := v.2 _ rfl
  refine zg_aload_n (q := 64) C dX6_findEnds_63 rfl rfl ?_
  refine zg_get (j := 4) (q := 67) C bX6 (by decide) lkX6_24 dX6_findEnds_64 rfl (okA.get v.1) ?_
  have v := v.2
  refine zg_iload_n (q := 68) C dX6_findEnds_67 rfl rfl ?_
  refine zg_aload_n (q := 69) C dX6_findEnds_68 rfl rfl ?_
  refine zg_get (j := 3) (q := 72) C bX6 (by decide) lkX6_21 dX6_findEnds_69 rfl (okA.get v.1) ?_
  have v := v.2
  refine zg_iload_n (q := 73) C dX6_findEnds_72 rfl rfl ?_
  refine zg_iald (q := 74) C dX6_findEnds_73 rfl v.1 ?_
  have v := v.2
  refine zg_iast (q := 75) C dX6_findEnds_74 rfl v.1 ?_
  have v := v.2 _ rfl
  refine zg_iinc (v := 1) (q := 78) C dX6_findEnds_75 rfl (by decide) (by decide) rfl ?_
  refine zg_goto (t := 2) C dX6_findEnds_78 (by decide) ?_
  exact zg_mask [true, true] v
set_option maxRecDepth 100000 in
set_option maxHeartbeats 4000000 in
theorem zsX6_findEnds_41 {E : Wd} {X : Mx} {d : Nat} {Q : Hp → Prop} (C : zz_C E X YX6_findEnds (d + 1) 0 0 (fun r h' => r = none ∧ Q h')) (a0 : Nat) (x1 : Int32) (s0 : Nat) (s1 : Int32) (s2 : Int32) (h : Hp) (v : vcX6_findEnds_41 E d (zkX6_findEnds_2 E X) a0 x1 s0 s1 s2 h Q) : GG E X 2 0 0 41 [some (.ref a0), some (.int x1)] [.int s2, .int s1, .ref s0] h := by
  refine zg_iast (q := 42) C dX6_findEnds_41 rfl v.1 ?_
  have v := v.2 _ rfl
  refine zg_aload_n (q := 43) C dX6_findEnds_42 rfl rfl ?_
  refine zg_get (j := 3) (q := 46) C bX6 (by decide) lkX6_21 dX6_findEnds_43 rfl (okA.get v.1) ?_
  have v := v.2
  refine zg_iload_n (q := 47) C dX6_findEnds_46 rfl rfl ?_
  refine zg_aload_n (q := 48) C dX6_findEnds_47 rfl rfl ?_
  refine zg_get (j := 2) (q := 51) C bX6 (by decide) lkX6_18 dX6_findEnds_48 rfl (okA.get v.1) ?_
  have v := v.2
  refine zg_iload_n (q := 52) C dX6_findEnds_51 rfl rfl ?_
  refine zg_iald (q := 53) C dX6_findEnds_52 rfl v.1 ?_
  have v := v.2
  refine zg_if_ne (t := 61) (q := 56) C dX6_findEnds_53 (by decide) rfl (fun c => ?_) (fun c => ?_)
  · have v := v.1 c
    refine zg_iconst (v := 0) (q := 62) C dX6_findEnds_61 (by decide) rfl ?_
    exact zg_mask [true, true] (zsX6_findEnds_62 C _ _ _ _ _ _ v)
  · have v := v.2 c
    refine zg_bipush (v := (-5)) (q := 58) C dX6_findEnds_56 (by decide) rfl ?_
    refine zg_goto (t := 62) C dX6_findEnds_58 (by decide) ?_
    exact zg_mask [true, true] (zsX6_findEnds_62 C _ _ _ _ _ _ v)
set_option maxRecDepth 100000 in
set_option maxHeartbeats 4000000 in
theorem zsX6_findEnds_40 {E : Wd} {X : Mx} {d : Nat} {Q : Hp → Prop} (C : zz_C E X YX6_findEnds (d + 1) 0 0 (fun r h' => r = none ∧ Q h')) (a0 : Nat) (x1 : Int32) (s0 : Nat) (s1 : Int32) (h : Hp) (v : vcX6_findEnds_40 E d (zkX6_findEnds_2 E X) a0 x1 s0 s1 h Q) : GG E X 2 0 0 40 [some (.ref a0), some (.int x1)] [.int s1, .ref s0] h := by
  refine zg_iconst (v := 0) (q := 41) C dX6_findEnds_40 (by decide) rfl ?_
  exact zg_mask [true, true] (zsX6_findEnds_41 C _ _ _ _ _ _ v)
set_option maxRecDepth 100000 in
set_option maxHeartbeats 4000000 in
theorem zsX6_findEnds_2 {E : Wd} {X : Mx} {d : Nat} {Q : Hp → Prop} (C : zz_C E X YX6_findEnds (d + 1) 0 0 (fun r h' => r = none ∧ Q h')) (a0 : Nat) (x1 : Int32) (h : Hp) (v : vcX6_findEnds_2 E d (zkX6_findEnds_2 E X) a0 x1 h Q) : GG E X 2 0 0 2 [some (.ref a0), some (.int x1)] [] h := by
  refine zg_iload_n (q := 3) C dX6_findEnds_2 rfl rfl ?_
  refine zg_aload_n (q := 4) C dX6_findEnds_3 rfl rfl ?_
  refine zg_get (j := 12) (q := 7) C bX6 (by decide) lkX6_62 dX6_findEnds_4 rfl (okI.get v.1) ?_
  have v := v.2
  refine zg_icmp_ge (t := 81) (q := 10) C dX6_findEnds_7 (by decide) rfl (fun c => ?_) (fun c => ?_)
  · have v := v.1 c
    exact zg_vret C rfl dX6_findEnds_81 ⟨Nat.le_refl _, Nat.le_refl _⟩ ⟨rfl, v⟩
  · have v := v.2 c
    refine zg_aload_n (q := 11) C dX6_findEnds_10 rfl rfl ?_
    refine zg_get (j := 2) (q := 14) C bX6 (by decide) lkX6_18 dX6_findEnds_11 rfl (okA.get v.1) ?_
    have v := v.2
    refine zg_iload_n (q := 15) C dX6_findEnds_14 rfl rfl ?_
    refine zg_aload_n (q := 16) C dX6_findEnds_15 rfl rfl ?_
    refine zg_get (j := 0) (q := 19) C bX6 (by decide) lkX6_9 dX6_findEnds_16 rfl (okA.get v.1) ?_
    have v := v.2
    refine zg_iload_n (q := 20) C dX6_findEnds_19 rfl rfl ?_
    refine zg_iald (q := 21) C dX6_findEnds_20 rfl v.1 ?_
    have v := v.2
    refine zg_if_lt (t := 40) (q := 24) C dX6_findEnds_21 (by decide) rfl (fun c => ?_) (fun c => ?_)
    · have v := v.1 c
      exact zg_mask [true, true] (zsX6_findEnds_40 C _ _ _ _ _ v)
    · have v := v.2 c
      refine zg_aload_n (q := 25) C dX6_findEnds_24 rfl rfl ?_
      refine zg_iload_n (q := 26) C dX6_findEnds_25 rfl rfl ?_
      refine zg_cV1I (q := 29) C mX6_isEnd vX6_isEnd lmX6_123 rfl (bX6).1 v.1 (Nat.le_of_ble_eq_true rfl) ⟨Nat.le_refl _, Nat.le_refl _⟩ dX6_findEnds_26 rfl v.2 (fun r2 h1 v => ?_)
      refine zg_if_eq (t := 40) (q := 32) C dX6_findEnds_29 (by decide) rfl (fun c => ?_) (fun c => ?_)
      · have v := v.1 c
        exact zg_mask [true, true] (zsX6_findEnds_40 C _ _ _ _ _ v)
      · have v := v.2 c
        refine zg_aload_n (q := 33) C dX6_findEnds_32 rfl rfl ?_
        refine zg_iload_n (q := 34) C dX6_findEnds_33 rfl rfl ?_
        refine zg_cV1I (q := 37) C mX6_endValue vX6_endValue lmX6_126 rfl (bX6).1 v.1 (Nat.le_of_ble_eq_true rfl) ⟨Nat.le_refl _, Nat.le_refl _⟩ dX6_findEnds_34 rfl v.2 (fun r4 h3 v => ?_)
        refine zg_goto (t := 41) C dX6_findEnds_37 (by decide) ?_
        exact zg_mask [true, true] (zsX6_findEnds_41 C _ _ _ _ _ _ v)
theorem rnX6_findEnds {E : Wd} {d : Nat} {a0 : Nat} {h : Hp} {Q : Hp → Prop} (k : ∀ (K2 : Nat → Int32 → Hp → Prop),(∀ (a0 : Nat) (x1 : Int32) h, vcX6_findEnds_2 E d K2 a0 x1 h Q → K2 a0 x1 h) → vcX6_findEnds_0 E d K2 a0 h Q) : OkV E YX6_findEnds (d + 1) [.ref a0] h Q :=
  zz_body2 (r := 1) mX6_findEnds (zc_a zc_n) (Nat.le_of_ble_eq_true rfl) (fun X C => zsX6_findEnds_0 C a0 h (k (zkX6_findEnds_2 E X) (fun a0 x1 h v => zsX6_findEnds_2 C a0 x1 h v)))
def vcX6_endValue_0 (E : Wd) (d : Nat) (a0 : Nat) (x1 : Int32) (h : Hp) (Q : Int32 → Hp → Prop) : Prop :=
  isO h a0 6 ∧ OkI E YX6_isRoyalAttacked d [.ref a0, .int x1] h (fun r2 h1 => (r2 = (0 : Int32) → okA h1 a0 6 8 ∧ okI h1 (fA h1 a0 8) 4 7 ∧ Q (fI h1 (fA h1 a0 8) 7) h1) ∧ (¬ r2 = (0 : Int32) → Q ((-1)) h1))
set_option maxRecDepth 100000 in
set_option maxHeartbeats 4000000 in
theorem zsX6_endValue_0 {E : Wd} {X : Mx} {d : Nat} {Q : Int32 → Hp → Prop} (C : zz_C E X YX6_endValue (d + 1) 0 0 (fun r h' => ∃ x : Int32, r = some (.int x) ∧ Q x h')) (a0 : Nat) (x1 : Int32) (h : Hp) (v : vcX6_endValue_0 E d a0 x1 h Q) : GG E X 2 0 0 0 [some (.ref a0), some (.int x1)] [] h := by
  refine zg_aload_n (q := 1) C dX6_endValue_0 rfl rfl ?_
  refine zg_iload_n (q := 2) C dX6_endValue_1 rfl rfl ?_
  refine zg_cV1I (q := 5) C mX6_isRoyalAttacked vX6_isRoyalAttacked lmX6_129 rfl (bX6).1 v.1 (Nat.le_of_ble_eq_true rfl) ⟨Nat.le_refl _, Nat.le_refl _⟩ dX6_endValue_2 rfl v.2 (fun r2 h1 v => ?_)
  refine zg_if_eq (t := 12) (q := 8) C dX6_endValue_5 (by decide) rfl (fun c => ?_) (fun c => ?_)
  · have v := v.1 c
    refine zg_aload_n (q := 13) C dX6_endValue_12 rfl rfl ?_
    refine zg_get (j := 8) (q := 16) C bX6 (by decide) lkX6_36 dX6_endValue_13 rfl (okA.get v.1) ?_
    have v := v.2
    refine zg_getN (j := 7) (q := 19) C bX4 (by decide) lkX6_132 dX6_endValue_16 rfl (okI.get v.1) ?_
    have v := v.2
    exact zg_iret C rfl dX6_endValue_19 ⟨Nat.le_refl _, Nat.le_refl _⟩ ⟨_, rfl, v⟩
  · have v := v.2 c
    refine zg_iconst (v := (-1)) (q := 9) C dX6_endValue_8 (by decide) rfl ?_
    refine zg_goto (t := 19) C dX6_endValue_9 (by decide) ?_
    exact zg_iret C rfl dX6_endValue_19 ⟨Nat.le_refl _, Nat.le_refl _⟩ ⟨_, rfl, v⟩
theorem rnX6_endValue {E : Wd} {d : Nat} {a0 : Nat} {x1 : Int32} {h : Hp} {Q : Int32 → Hp → Prop} (k : vcX6_endValue_0 E d a0 x1 h Q) : OkI E YX6_endValue (d + 1) [.ref a0, .int x1] h Q :=
  zz_body2 (r := 0) mX6_endValue (zc_a (zc_i zc_n)) (Nat.le_of_ble_eq_true rfl) (fun X C => zsX6_endValue_0 C a0 x1 h k)
def vcX6_findValues_0 (E : Wd) (d : Nat) (K4 : Nat → Int32 → Int32 → Int32 → Hp → Prop) (a0 : Nat) (x1 : Int32) (h : Hp) (Q : Int32 → Hp → Prop) : Prop :=
  K4 a0 x1 0 0 h
def vcX6_findValues_4 (E : Wd) (d : Nat) (K4 : Nat → Int32 → Int32 → Int32 → Hp → Prop) (a0 : Nat) (x1 : Int32) (x2 : Int32) (x3 : Int32) (h : Hp) (Q : Int32 → Hp → Prop) : Prop :=
  okI h a0 6 12 ∧ ((fI h a0 12) ≤ x3 → mB x2 ∧ Q x2 h) ∧ (¬ (fI h a0 12) ≤ x3 → okA h a0 6 0 ∧ okR E h (fA h a0 0) 0 x3 ∧ (¬ (gA h (fA h a0 0) x3) = x3 → K4 a0 x1 x2 (x3 + 1) h) ∧ ((gA h (fA h a0 0) x3) = x3 → okA h a0 6 2 ∧ okR E h (fA h a0 2) 0 x3 ∧ (¬ (gA h (fA h a0 2) x3) = (0 : Int32) → K4 a0 x1 x2 (x3 + 1) h) ∧ ((gA h (fA h a0 2) x3) = (0 : Int32) → isO h a0 6 ∧ OkI E YX6_isEnd d [.ref a0, .int x3] h (fun r2 h1 => (r2 = (0 : Int32) → isO h1 a0 6 ∧ OkI E YX6_valueFromSteps d [.ref a0, .int x3, .int x1] h1 (fun r4 h3 => (¬ r4 = (0 : Int32) → okA h3 a0 6 2 ∧ okR E h3 (fA h3 a0 2) 0 x3 ∧ ∀ h5, h5 = sA h3 (fA h3 a0 2) x3 r4 → okA h5 a0 6 3 ∧ okR E h5 (fA h5 a0 3) 0 x3 ∧ ∀ h6, h6 = sA h5 (fA h5 a0 3) x3 x1 → K4 a0 x1 1 (x3 + 1) h6) ∧ (r4 = (0 : Int32) → K4 a0 x1 x2 (x3 + 1) h3))) ∧ (¬ r2 = (0 : Int32) → K4 a0 x1 x2 (x3 + 1) h1)))))
def zkX6_findValues_4 (E : Wd) (X : Mx) : Nat → Int32 → Int32 → Int32 → Hp → Prop := fun a0 x1 x2 x3 h => GG E X 5 0 0 4 [some (.ref a0), some (.int x1), some (.int x2), some (.int x3), none] [] h
set_option maxRecDepth 100000 in
set_option maxHeartbeats 4000000 in
theorem zsX6_findValues_0 {E : Wd} {X : Mx} {d : Nat} {Q : Int32 → Hp → Prop} (C : zz_C E X YX6_findValues (d + 1) 0 0 (fun r h' => ∃ x : Int32, r = some (.int x) ∧ Q x h')) (a0 : Nat) (x1 : Int32) (h : Hp) (v : vcX6_findValues_0 E d (zkX6_findValues_4 E X) a0 x1 h Q) : GG E X 5 0 0 0 [some (.ref a0), some (.int x1), none, none, none] [] h := by
  refine zg_iconst (v := 0) (q := 1) C dX6_findValues_0 (by decide) rfl ?_
  refine zg_istore_n (q := 2) C dX6_findValues_1 (by decide) rfl ?_
  refine zg_iconst (v := 0) (q := 3) C dX6_findValues_2 (by decide) rfl ?_
  refine zg_istore_n (q := 4) C dX6_findValues_3 (by decide) rfl ?_
  exact zg_mask [true, true, true, true, false] v
set_option maxRecDepth 100000 in
set_option maxHeartbeats 4000000 in
theorem zsX6_findValues_4 {E : Wd} {X : Mx} {d : Nat} {Q : Int32 → Hp → Prop} (C : zz_C E X YX6_findValues (d + 1) 0 0 (fun r h' => ∃ x : Int32, r = some (.int x) ∧ Q x h')) (a0 : Nat) (x1 : Int32) (x2 : Int32) (x3 : Int32) (h : Hp) (v : vcX6_findValues_4 E d (zkX6_findValues_4 E X) a0 x1 x2 x3 h Q) : GG E X 5 0 0 4 [some (.ref a0), some (.int x1), some (.int x2), some (.int x3), none] [] h := by
  refine zg_iload_n (q := 5) C dX6_findValues_4 rfl rfl ?_
  refine zg_aload_n (q := 6) C dX6_findValues_5 rfl rfl ?_
  refine zg_get (j := 12) (q := 9) C bX6 (by decide) lkX6_62 dX6_findValues_6 rfl (okI.get v.1) ?_
  have v := v.2
  refine zg_icmp_ge (t := 81) (q := 12) C dX6_findValues_9 (by decide) rfl (fun c => ?_) (fun c => ?_)
  · have v := v.1 c
    refine zg_iload_n (q := 82) C dX6_findValues_81 rfl rfl ?_
    exact zg_zret C rfl dX6_findValues_82 ⟨Nat.le_refl _, Nat.le_refl _⟩ v.1 ⟨_, rfl, v.2⟩
  · have v := v.2 c
    refine zg_aload_n (q := 13) C dX6_findValues_12 rfl rfl ?_
    refine zg_get (j := 0) (q := 16) C bX6 (by decide) lkX6_9 dX6_findValues_13 rfl (okA.get v.1) ?_
    have v := v.2
    refine zg_iload_n (q := 17) C dX6_findValues_16 rfl rfl ?_
    refine zg_iald (q := 18) C dX6_findValues_17 rfl v.1 ?_
    have v := v.2
    refine zg_iload_n (q := 19) C dX6_findValues_18 rfl rfl ?_
    refine zg_icmp_ne (t := 75) (q := 22) C dX6_findValues_19 (by decide) rfl (fun c => ?_) (fun c => ?_)
    · have v := v.1 c
      refine zg_iinc (v := 1) (q := 78) C dX6_findValues_75 rfl (by decide) (by decide) rfl ?_
      refine zg_goto (t := 4) C dX6_findValues_78 (by decide) ?_
      exact zg_mask [true, true, true, true, false] v
    · have v := v.2 c
      refine zg_aload_n (q := 23) C dX6_findValues_22 rfl rfl ?_
      refine zg_get (j := 2) (q := 26) C bX6 (by decide) lkX6_18 dX6_findValues_23 rfl (okA.get v.1) ?_
      have v := v.2
      refine zg_iload_n (q := 27) C dX6_findValues_26 rfl rfl ?_
      refine zg_iald (q := 28) C dX6_findValues_27 rfl v.1 ?_
      have v := v.2
      refine zg_if_ne (t := 75) (q := 31) C dX6_findValues_28 (by decide) rfl (fun c => ?_) (fun c => ?_)
      · have v := v.1 c
        refine zg_iinc (v := 1) (q := 78) C dX6_findValues_75 rfl (by decide) (by decide) rfl ?_
        refine zg_goto (t := 4) C dX6_findValues_78 (by decide) ?_
        exact zg_mask [true, true, true, true, false] v
      · have v := v.2 c
        refine zg_aload_n (q := 32) C dX6_findValues_31 rfl rfl ?_
        refine zg_iload_n (q := 33) C dX6_findValues_32 rfl rfl ?_
        refine zg_cV1I (q := 36) C mX6_isEnd vX6_isEnd lmX6_123 rfl (bX6).1 v.1 (Nat.le_of_ble_eq_true rfl) ⟨Nat.le_refl _, Nat.le_refl _⟩ dX6_findValues_33 rfl v.2 (fun r2 h1 v => ?_)
        refine zg_if_eq (t := 42) (q := 39) C dX6_findValues_36 (by decide) rfl (fun c => ?_) (fun c => ?_)
        · have v := v.1 c
          refine zg_aload_n (q := 43) C dX6_findValues_42 rfl rfl ?_
          refine zg_iload_n (q := 44) C dX6_findValues_43 rfl rfl ?_
          refine zg_iload_n (q := 45) C dX6_findValues_44 rfl rfl ?_
          refine zg_cV2I (q := 48) C mX6_valueFromSteps vX6_valueFromSteps lmX6_135 rfl (bX6).1 v.1 (Nat.le_of_ble_eq_true rfl) ⟨Nat.le_refl _, Nat.le_refl _⟩ dX6_findValues_45 rfl v.2 (fun r4 h3 v => ?_)
          refine zg_istore (q := 50) C dX6_findValues_48 (by decide) rfl ?_
          refine zg_iload (q := 52) C dX6_findValues_50 rfl rfl ?_
          refine zg_if_ne (t := 58) (q := 55) C dX6_findValues_52 (by decide) rfl (fun c => ?_) (fun c => ?_)
          · have v := v.1 c
            refine zg_aload_n (q := 59) C dX6_findValues_58 rfl rfl ?_
            refine zg_get (j := 2) (q := 62) C bX6 (by decide) lkX6_18 dX6_findValues_59 rfl (okA.get v.1) ?_
            have v := v.2
            refine zg_iload_n (q := 63) C dX6_findValues_62 rfl rfl ?_
            refine zg_iload (q := 65) C dX6_findValues_63 rfl rfl ?_
            refine zg_iast (q := 66) C dX6_findValues_65 rfl v.1 ?_
            have v := v.2 _ rfl
            refine zg_aload_n (q := 67) C dX6_findValues_66 rfl rfl ?_
            refine zg_get (j := 3) (q := 70) C bX6 (by decide) lkX6_21 dX6_findValues_67 rfl (okA.get v.1) ?_
            have v := v.2
            refine zg_iload_n (q := 71) C dX6_findValues_70 rfl rfl ?_
            refine zg_iload_n (q := 72) C dX6_findValues_71 rfl rfl ?_
            refine zg_iast (q := 73) C dX6_findValues_72 rfl v.1 ?_
            have v := v.2 _ rfl
            refine zg_iconst (v := 1) (q := 74) C dX6_findValues_73 (by decide) rfl ?_
            refine zg_istore_n (q := 75) C dX6_findValues_74 (by decide) rfl ?_
            refine zg_iinc (v := 1) (q := 78) C dX6_findValues_75 rfl (by decide) (by decide) rfl ?_
            refine zg_goto (t := 4) C dX6_findValues_78 (by decide) ?_
            exact zg_mask [true, true, true, true, false] v
          · have v := v.2 c
            refine zg_goto (t := 75) C dX6_findValues_55 (by decide) ?_
            refine zg_iinc (v := 1) (q := 78) C dX6_findValues_75 rfl (by decide) (by decide) rfl ?_
            refine zg_goto (t := 4) C dX6_findValues_78 (by decide) ?_
            exact zg_mask [true, true, true, true, false] v
        · have v := v.2 c
          refine zg_goto (t := 75) C dX6_findValues_39 (by decide) ?_
          refine zg_iinc (v := 1) (q := 78) C dX6_findValues_75 rfl (by decide) (by decide) rfl ?_
          refine zg_goto (t := 4) C dX6_findValues_78 (by decide) ?_
          exact zg_mask [true, true, true, true, false] v
theorem rnX6_findValues {E : Wd} {d : Nat} {a0 : Nat} {x1 : Int32} {h : Hp} {Q : Int32 → Hp → Prop} (k : ∀ (K4 : Nat → Int32 → Int32 → Int32 → Hp → Prop),(∀ (a0 : Nat) (x1 : Int32) (x2 : Int32) (x3 : Int32) h, vcX6_findValues_4 E d K4 a0 x1 x2 x3 h Q → K4 a0 x1 x2 x3 h) → vcX6_findValues_0 E d K4 a0 x1 h Q) : OkI E YX6_findValues (d + 1) [.ref a0, .int x1] h Q :=
  zz_body2 (r := 3) mX6_findValues (zc_a (zc_i zc_n)) (Nat.le_of_ble_eq_true rfl) (fun X C => zsX6_findValues_0 C a0 x1 h (k (zkX6_findValues_4 E X) (fun a0 x1 x2 x3 h v => zsX6_findValues_4 C a0 x1 x2 x3 h v)))
def vcX6_valueFromSteps_0 (E : Wd) (d : Nat) (K10 : Nat → Int32 → Int32 → Int32 → Int32 → Hp → Prop) (a0 : Nat) (x1 : Int32) (x2 : Int32) (h : Hp) (Q : Int32 → Hp → Prop) : Prop :=
  okA h a0 6 5 ∧ okR E h (fA h a0 5) 0 x1 ∧ K10 a0 x1 x2 1 (gA h (fA h a0 5) x1) h
def vcX6_valueFromSteps_56 (E : Wd) (d : Nat) (K10 : Nat → Int32 → Int32 → Int32 → Int32 → Hp → Prop) (a0 : Nat) (x1 : Int32) (x2 : Int32) (x3 : Int32) (x4 : Int32) (s0 : Int32) (h : Hp) (Q : Int32 → Hp → Prop) : Prop :=
  ((0 : Int32) ≤ s0 → (¬ s0 = (0 : Int32) → K10 a0 x1 x2 x3 (x4 + 1) h) ∧ (s0 = (0 : Int32) → K10 a0 x1 x2 0 (x4 + 1) h)) ∧ (¬ (0 : Int32) ≤ s0 → Q 1 h)
def vcX6_valueFromSteps_10 (E : Wd) (d : Nat) (K10 : Nat → Int32 → Int32 → Int32 → Int32 → Hp → Prop) (a0 : Nat) (x1 : Int32) (x2 : Int32) (x3 : Int32) (x4 : Int32) (h : Hp) (Q : Int32 → Hp → Prop) : Prop :=
  okA h a0 6 5 ∧ okR E h (fA h a0 5) 0 (x1 + (1 : Int32)) ∧ ((gA h (fA h a0 5) (x1 + (1 : Int32))) ≤ x4 → (x3 = (0 : Int32) → Q 0 h) ∧ (¬ x3 = (0 : Int32) → Q ((-1)) h)) ∧ (¬ (gA h (fA h a0 5) (x1 + (1 : Int32))) ≤ x4 → okA h a0 6 6 ∧ okR E h (fA h a0 6) 0 x4 ∧ isO h a0 6 ∧ OkI E YX6_canonicalOf d [.ref a0, .int (gA h (fA h a0 6) x4)] h (fun r2 h1 => isO h1 a0 6 ∧ OkI E YX6_toEndOf d [.ref a0, .int r2] h1 (fun r4 h3 => (x2 ≤ r4 → vcX6_valueFromSteps_56 E d K10 a0 x1 x2 x3 x4 0 h3 Q) ∧ (¬ x2 ≤ r4 → isO h3 a0 6 ∧ OkI E YX6_valueOf d [.ref a0, .int r2] h3 (fun r6 h5 => vcX6_valueFromSteps_56 E d K10 a0 x1 x2 x3 x4 r6 h5 Q)))))
def zkX6_valueFromSteps_10 (E : Wd) (X : Mx) : Nat → Int32 → Int32 → Int32 → Int32 → Hp → Prop := fun a0 x1 x2 x3 x4 h => GG E X 7 0 0 10 [some (.ref a0), some (.int x1), some (.int x2), some (.int x3), some (.int x4), none, none] [] h
set_option maxRecDepth 100000 in
set_option maxHeartbeats 4000000 in
theorem zsX6_valueFromSteps_0 {E : Wd} {X : Mx} {d : Nat} {Q : Int32 → Hp → Prop} (C : zz_C E X YX6_valueFromSteps (d + 1) 0 0 (fun r h' => ∃ x : Int32, r = some (.int x) ∧ Q x h')) (a0 : Nat) (x1 : Int32) (x2 : Int32) (h : Hp) (v : vcX6_valueFromSteps_0 E d (zkX6_valueFromSteps_10 E X) a0 x1 x2 h Q) : GG E X 7 0 0 0 [some (.ref a0), some (.int x1), some (.int x2), none, none, none, none] [] h := by
  refine zg_iconst (v := 1) (q := 1) C dX6_valueFromSteps_0 (by decide) rfl ?_
  refine zg_istore_n (q := 2) C dX6_valueFromSteps_1 (by decide) rfl ?_
  refine zg_aload_n (q := 3) C dX6_valueFromSteps_2 rfl rfl ?_
  refine zg_get (j := 5) (q := 6) C bX6 (by decide) lkX6_27 dX6_valueFromSteps_3 rfl (okA.get v.1) ?_
  have v := v.2
  refine zg_iload_n (q := 7) C dX6_valueFromSteps_6 rfl rfl ?_
  refine zg_iald (q := 8) C dX6_valueFromSteps_7 rfl v.1 ?_
  have v := v.2
  refine zg_istore (q := 10) C dX6_valueFromSteps_8 (by decide) rfl ?_
  exact zg_mask [true, true, true, true, true, false, false] v
set_option maxRecDepth 100000 in
set_option maxHeartbeats 4000000 in
theorem zsX6_valueFromSteps_56 {E : Wd} {X : Mx} {d : Nat} {Q : Int32 → Hp → Prop} (C : zz_C E X YX6_valueFromSteps (d + 1) 0 0 (fun r h' => ∃ x : Int32, r = some (.int x) ∧ Q x h')) (a0 : Nat) (x1 : Int32) (x2 : Int32) (x3 : Int32) (x4 : Int32) (s0 : Int32) (h : Hp) (v : vcX6_valueFromSteps_56 E d (zkX6_valueFromSteps_10 E X) a0 x1 x2 x3 x4 s0 h Q) : GG E X 7 0 0 56 [some (.ref a0), some (.int x1), some (.int x2), some (.int x3), some (.int x4), none, none] [.int s0] h := by
  refine zg_istore (q := 58) C dX6_valueFromSteps_56 (by decide) rfl ?_
  refine zg_iload (q := 60) C dX6_valueFromSteps_58 rfl rfl ?_
  refine zg_if_ge (t := 65) (q := 63) C dX6_valueFromSteps_60 (by decide) rfl (fun c => ?_) (fun c => ?_)
  · have v := v.1 c
    refine zg_iload (q := 67) C dX6_valueFromSteps_65 rfl rfl ?_
    refine zg_if_ne (t := 72) (q := 70) C dX6_valueFromSteps_67 (by decide) rfl (fun c => ?_) (fun c => ?_)
    · have v := v.1 c
      refine zg_iinc (v := 1) (q := 75) C dX6_valueFromSteps_72 rfl (by decide) (by decide) rfl ?_
      refine zg_goto (t := 10) C dX6_valueFromSteps_75 (by decide) ?_
      exact zg_mask [true, true, true, true, true, false, false] v
    · have v := v.2 c
      refine zg_iconst (v := 0) (q := 71) C dX6_valueFromSteps_70 (by decide) rfl ?_
      refine zg_istore_n (q := 72) C dX6_valueFromSteps_71 (by decide) rfl ?_
      refine zg_iinc (v := 1) (q := 75) C dX6_valueFromSteps_72 rfl (by decide) (by decide) rfl ?_
      refine zg_goto (t := 10) C dX6_valueFromSteps_75 (by decide) ?_
      exact zg_mask [true, true, true, true, true, false, false] v
  · have v := v.2 c
    refine zg_iconst (v := 1) (q := 64) C dX6_valueFromSteps_63 (by decide) rfl ?_
    exact zg_iret C rfl dX6_valueFromSteps_64 ⟨Nat.le_refl _, Nat.le_refl _⟩ ⟨_, rfl, v⟩
set_option maxRecDepth 100000 in
set_option maxHeartbeats 4000000 in
theorem zsX6_valueFromSteps_10 {E : Wd} {X : Mx} {d : Nat} {Q : Int32 → Hp → Prop} (C : zz_C E X YX6_valueFromSteps (d + 1) 0 0 (fun r h' => ∃ x : Int32, r = some (.int x) ∧ Q x h')) (a0 : Nat) (x1 : Int32) (x2 : Int32) (x3 : Int32) (x4 : Int32) (h : Hp) (v : vcX6_valueFromSteps_10 E d (zkX6_valueFromSteps_10 E X) a0 x1 x2 x3 x4 h Q) : GG E X 7 0 0 10 [some (.ref a0), some (.int x1), some (.int x2), some (.int x3), some (.int x4), none, none] [] h := by
  refine zg_iload (q := 12) C dX6_valueFromSteps_10 rfl rfl ?_
  refine zg_aload_n (q := 13) C dX6_valueFromSteps_12 rfl rfl ?_
  refine zg_get (j := 5) (q := 16) C bX6 (by decide) lkX6_27 dX6_valueFromSteps_13 rfl (okA.get v.1) ?_
  have v := v.2
  refine zg_iload_n (q := 17) C dX6_valueFromSteps_16 rfl rfl ?_
  refine zg_iconst (v := 1) (q := 18) C dX6_valueFromSteps_17 (by decide) rfl ?_
  refine zg_iadd (q := 19) C dX6_valueFromSteps_18 rfl ?_
  refine zg_iald (q := 20) C dX6_valueFromSteps_19 rfl v.1 ?_
  have v := v.2
  refine zg_icmp_ge (t := 78) (q := 23) C dX6_valueFromSteps_20 (by decide) rfl (fun c => ?_) (fun c => ?_)
  · have v := v.1 c
    refine zg_iload_n (q := 79) C dX6_valueFromSteps_78 rfl rfl ?_
    refine zg_if_eq (t := 86) (q := 82) C dX6_valueFromSteps_79 (by decide) rfl (fun c => ?_) (fun c => ?_)
    · have v := v.1 c
      refine zg_iconst (v := 0) (q := 87) C dX6_valueFromSteps_86 (by decide) rfl ?_
      exact zg_iret C rfl dX6_valueFromSteps_87 ⟨Nat.le_refl _, Nat.le_refl _⟩ ⟨_, rfl, v⟩
    · have v := v.2 c
      refine zg_iconst (v := (-1)) (q := 83) C dX6_valueFromSteps_82 (by decide) rfl ?_
      refine zg_goto (t := 87) C dX6_valueFromSteps_83 (by decide) ?_
      exact zg_iret C rfl dX6_valueFromSteps_87 ⟨Nat.le_refl _, Nat.le_refl _⟩ ⟨_, rfl, v⟩
  · have v := v.2 c
    refine zg_aload_n (q := 24) C dX6_valueFromSteps_23 rfl rfl ?_
    refine zg_aload_n (q := 25) C dX6_valueFromSteps_24 rfl rfl ?_
    refine zg_get (j := 6) (q := 28) C bX6 (by decide) lkX6_30 dX6_valueFromSteps_25 rfl (okA.get v.1) ?_
    have v := v.2
    refine zg_iload (q := 30) C dX6_valueFromSteps_28 rfl rfl ?_
    refine zg_iald (q := 31) C dX6_valueFromSteps_30 rfl v.1 ?_
    have v := v.2
    refine zg_cV1I (q := 34) C mX6_canonicalOf vX6_canonicalOf lmX6_138 rfl (bX6).1 v.1 (Nat.le_of_ble_eq_true rfl) ⟨Nat.le_refl _, Nat.le_refl _⟩ dX6_valueFromSteps_31 rfl v.2 (fun r2 h1 v => ?_)
    refine zg_istore (q := 36) C dX6_valueFromSteps_34 (by decide) rfl ?_
    refine zg_aload_n (q := 37) C dX6_valueFromSteps_36 rfl rfl ?_
    refine zg_iload (q := 39) C dX6_valueFromSteps_37 rfl rfl ?_
    refine zg_cV1I (q := 42) C mX6_toEndOf vX6_toEndOf lmX6_141 rfl (bX6).1 v.1 (Nat.le_of_ble_eq_true rfl) ⟨Nat.le_refl _, Nat.le_refl _⟩ dX6_valueFromSteps_39 rfl v.2 (fun r4 h3 v => ?_)
    refine zg_iload_n (q := 43) C dX6_valueFromSteps_42 rfl rfl ?_
    refine zg_icmp_ge (t := 55) (q := 46) C dX6_valueFromSteps_43 (by decide) rfl (fun c => ?_) (fun c => ?_)
    · have v := v.1 c
      refine zg_iconst (v := 0) (q := 56) C dX6_valueFromSteps_55 (by decide) rfl ?_
      exact zg_mask [true, true, true, true, true, false, false] (zsX6_valueFromSteps_56 C _ _ _ _ _ _ _ v)
    · have v := v.2 c
      refine zg_aload_n (q := 47) C dX6_valueFromSteps_46 rfl rfl ?_
      refine zg_iload (q := 49) C dX6_valueFromSteps_47 rfl rfl ?_
      refine zg_cV1I (q := 52) C mX6_valueOf vX6_valueOf lmX6_144 rfl (bX6).1 v.1 (Nat.le_of_ble_eq_true rfl) ⟨Nat.le_refl _, Nat.le_refl _⟩ dX6_valueFromSteps_49 rfl v.2 (fun r6 h5 v => ?_)
      refine zg_goto (t := 56) C dX6_valueFromSteps_52 (by decide) ?_
      exact zg_mask [true, true, true, true, true, false, false] (zsX6_valueFromSteps_56 C _ _ _ _ _ _ _ v)
theorem rnX6_valueFromSteps {E : Wd} {d : Nat} {a0 : Nat} {x1 : Int32} {x2 : Int32} {h : Hp} {Q : Int32 → Hp → Prop} (k : ∀ (K10 : Nat → Int32 → Int32 → Int32 → Int32 → Hp → Prop),(∀ (a0 : Nat) (x1 : Int32) (x2 : Int32) (x3 : Int32) (x4 : Int32) h, vcX6_valueFromSteps_10 E d K10 a0 x1 x2 x3 x4 h Q → K10 a0 x1 x2 x3 x4 h) → vcX6_valueFromSteps_0 E d K10 a0 x1 x2 h Q) : OkI E YX6_valueFromSteps (d + 1) [.ref a0, .int x1, .int x2] h Q :=
  zz_body2 (r := 4) mX6_valueFromSteps (zc_a (zc_i (zc_i zc_n))) (Nat.le_of_ble_eq_true rfl) (fun X C => zsX6_valueFromSteps_0 C a0 x1 x2 h (k (zkX6_valueFromSteps_10 E X) (fun a0 x1 x2 x3 x4 h v => zsX6_valueFromSteps_10 C a0 x1 x2 x3 x4 h v)))
def vcX6_findConversions_0 (E : Wd) (d : Nat) (K4 : Nat → Int32 → Int32 → Int32 → Hp → Prop) (a0 : Nat) (x1 : Int32) (h : Hp) (Q : Int32 → Hp → Prop) : Prop :=
  K4 a0 x1 0 0 h
def vcX6_findConversions_4 (E : Wd) (d : Nat) (K4 : Nat → Int32 → Int32 → Int32 → Hp → Prop) (a0 : Nat) (x1 : Int32) (x2 : Int32) (x3 : Int32) (h : Hp) (Q : Int32 → Hp → Prop) : Prop :=
  okI h a0 6 12 ∧ ((fI h a0 12) ≤ x3 → mB x2 ∧ Q x2 h) ∧ (¬ (fI h a0 12) ≤ x3 → okA h a0 6 0 ∧ okR E h (fA h a0 0) 0 x3 ∧ (¬ (gA h (fA h a0 0) x3) = x3 → K4 a0 x1 x2 (x3 + 1) h) ∧ ((gA h (fA h a0 0) x3) = x3 → okA h a0 6 2 ∧ okR E h (fA h a0 2) 0 x3 ∧ ((gA h (fA h a0 2) x3) = (0 : Int32) → K4 a0 x1 x2 (x3 + 1) h) ∧ (¬ (gA h (fA h a0 2) x3) = (0 : Int32) → okA h a0 6 4 ∧ okR E h (fA h a0 4) 0 x3 ∧ ((gA h (fA h a0 4) x3) < (0 : Int32) → isO h a0 6 ∧ OkI E YX6_isConverted d [.ref a0, .int x3, .int x1] h (fun r2 h1 => (¬ r2 = (0 : Int32) → okA h1 a0 6 4 ∧ okR E h1 (fA h1 a0 4) 0 x3 ∧ ∀ h3, h3 = sA h1 (fA h1 a0 4) x3 x1 → K4 a0 x1 1 (x3 + 1) h3) ∧ (r2 = (0 : Int32) → K4 a0 x1 x2 (x3 + 1) h1))) ∧ (¬ (gA h (fA h a0 4) x3) < (0 : Int32) → K4 a0 x1 x2 (x3 + 1) h))))
def zkX6_findConversions_4 (E : Wd) (X : Mx) : Nat → Int32 → Int32 → Int32 → Hp → Prop := fun a0 x1 x2 x3 h => GG E X 4 0 0 4 [some (.ref a0), some (.int x1), some (.int x2), some (.int x3)] [] h
set_option maxRecDepth 100000 in
set_option maxHeartbeats 4000000 in
theorem zsX6_findConversions_0 {E : Wd} {X : Mx} {d : Nat} {Q : Int32 → Hp → Prop} (C : zz_C E X YX6_findConversions (d + 1) 0 0 (fun r h' => ∃ x : Int32, r = some (.int x) ∧ Q x h')) (a0 : Nat) (x1 : Int32) (h : Hp) (v : vcX6_findConversions_0 E d (zkX6_findConversions_4 E X) a0 x1 h Q) : GG E X 4 0 0 0 [some (.ref a0), some (.int x1), none, none] [] h := by
  refine zg_iconst (v := 0) (q := 1) C dX6_findConversions_0 (by decide) rfl ?_
  refine zg_istore_n (q := 2) C dX6_findConversions_1 (by decide) rfl ?_
  refine zg_iconst (v := 0) (q := 3) C dX6_findConversions_2 (by decide) rfl ?_
  refine zg_istore_n (q := 4) C dX6_findConversions_3 (by decide) rfl ?_
  exact zg_mask [true, true, true, true] v
set_option maxRecDepth 100000 in
set_option maxHeartbeats 4000000 in
theorem zsX6_findConversions_4 {E : Wd} {X : Mx} {d : Nat} {Q : Int32 → Hp → Prop} (C : zz_C E X YX6_findConversions (d + 1) 0 0 (fun r h' => ∃ x : Int32, r = some (.int x) ∧ Q x h')) (a0 : Nat) (x1 : Int32) (x2 : Int32) (x3 : Int32) (h : Hp) (v : vcX6_findConversions_4 E d (zkX6_findConversions_4 E X) a0 x1 x2 x3 h Q) : GG E X 4 0 0 4 [some (.ref a0), some (.int x1), some (.int x2), some (.int x3)] [] h := by
  refine zg_iload_n (q := 5) C dX6_findConversions_4 rfl rfl ?_
  refine zg_aload_n (q := 6) C dX6_findConversions_5 rfl rfl ?_
  refine zg_get (j := 12) (q := 9) C bX6 (by decide) lkX6_62 dX6_findConversions_6 rfl (okI.get v.1) ?_
  have v := v.2
  refine zg_icmp_ge (t := 70) (q := 12) C dX6_findConversions_9 (by decide) rfl (fun c => ?_) (fun c => ?_)
  · have v := v.1 c
    refine zg_iload_n (q := 71) C dX6_findConversions_70 rfl rfl ?_
    exact zg_zret C rfl dX6_findConversions_71 ⟨Nat.le_refl _, Nat.le_refl _⟩ v.1 ⟨_, rfl, v.2⟩
  · have v := v.2 c
    refine zg_aload_n (q := 13) C dX6_findConversions_12 rfl rfl ?_
    refine zg_get (j := 0) (q := 16) C bX6 (by decide) lkX6_9 dX6_findConversions_13 rfl (okA.get v.1) ?_
    have v := v.2
    refine zg_iload_n (q := 17) C dX6_findConversions_16 rfl rfl ?_
    refine zg_iald (q := 18) C dX6_findConversions_17 rfl v.1 ?_
    have v := v.2
    refine zg_iload_n (q := 19) C dX6_findConversions_18 rfl rfl ?_
    refine zg_icmp_ne (t := 64) (q := 22) C dX6_findConversions_19 (by decide) rfl (fun c => ?_) (fun c => ?_)
    · have v := v.1 c
      refine zg_iinc (v := 1) (q := 67) C dX6_findConversions_64 rfl (by decide) (by decide) rfl ?_
      refine zg_goto (t := 4) C dX6_findConversions_67 (by decide) ?_
      exact zg_mask [true, true, true, true] v
    · have v := v.2 c
      refine zg_aload_n (q := 23) C dX6_findConversions_22 rfl rfl ?_
      refine zg_get (j := 2) (q := 26) C bX6 (by decide) lkX6_18 dX6_findConversions_23 rfl (okA.get v.1) ?_
      have v := v.2
      refine zg_iload_n (q := 27) C dX6_findConversions_26 rfl rfl ?_
      refine zg_iald (q := 28) C dX6_findConversions_27 rfl v.1 ?_
      have v := v.2
      refine zg_if_eq (t := 64) (q := 31) C dX6_findConversions_28 (by decide) rfl (fun c => ?_) (fun c => ?_)
      · have v := v.1 c
        refine zg_iinc (v := 1) (q := 67) C dX6_findConversions_64 rfl (by decide) (by decide) rfl ?_
        refine zg_goto (t := 4) C dX6_findConversions_67 (by decide) ?_
        exact zg_mask [true, true, true, true] v
      · have v := v.2 c
        refine zg_aload_n (q := 32) C dX6_findConversions_31 rfl rfl ?_
        refine zg_get (j := 4) (q := 35) C bX6 (by decide) lkX6_24 dX6_findConversions_32 rfl (okA.get v.1) ?_
        have v := v.2
        refine zg_iload_n (q := 36) C dX6_findConversions_35 rfl rfl ?_
        refine zg_iald (q := 37) C dX6_findConversions_36 rfl v.1 ?_
        have v := v.2
        refine zg_if_lt (t := 43) (q := 40) C dX6_findConversions_37 (by decide) rfl (fun c => ?_) (fun c => ?_)
        · have v := v.1 c
          refine zg_aload_n (q := 44) C dX6_findConversions_43 rfl rfl ?_
          refine zg_iload_n (q := 45) C dX6_findConversions_44 rfl rfl ?_
          refine zg_iload_n (q := 46) C dX6_findConversions_45 rfl rfl ?_
          refine zg_cV2I (q := 49) C mX6_isConverted vX6_isConverted lmX6_147 rfl (bX6).1 v.1 (Nat.le_of_ble_eq_true rfl) ⟨Nat.le_refl _, Nat.le_refl _⟩ dX6_findConversions_46 rfl v.2 (fun r2 h1 v => ?_)
          refine zg_if_ne (t := 55) (q := 52) C dX6_findConversions_49 (by decide) rfl (fun c => ?_) (fun c => ?_)
          · have v := v.1 c
            refine zg_aload_n (q := 56) C dX6_findConversions_55 rfl rfl ?_
            refine zg_get (j := 4) (q := 59) C bX6 (by decide) lkX6_24 dX6_findConversions_56 rfl (okA.get v.1) ?_
            have v := v.2
            refine zg_iload_n (q := 60) C dX6_findConversions_59 rfl rfl ?_
            refine zg_iload_n (q := 61) C dX6_findConversions_60 rfl rfl ?_
            refine zg_iast (q := 62) C dX6_findConversions_61 rfl v.1 ?_
            have v := v.2 _ rfl
            refine zg_iconst (v := 1) (q := 63) C dX6_findConversions_62 (by decide) rfl ?_
            refine zg_istore_n (q := 64) C dX6_findConversions_63 (by decide) rfl ?_
            refine zg_iinc (v := 1) (q := 67) C dX6_findConversions_64 rfl (by decide) (by decide) rfl ?_
            refine zg_goto (t := 4) C dX6_findConversions_67 (by decide) ?_
            exact zg_mask [true, true, true, true] v
          · have v := v.2 c
            refine zg_goto (t := 64) C dX6_findConversions_52 (by decide) ?_
            refine zg_iinc (v := 1) (q := 67) C dX6_findConversions_64 rfl (by decide) (by decide) rfl ?_
            refine zg_goto (t := 4) C dX6_findConversions_67 (by decide) ?_
            exact zg_mask [true, true, true, true] v
        · have v := v.2 c
          refine zg_goto (t := 64) C dX6_findConversions_40 (by decide) ?_
          refine zg_iinc (v := 1) (q := 67) C dX6_findConversions_64 rfl (by decide) (by decide) rfl ?_
          refine zg_goto (t := 4) C dX6_findConversions_67 (by decide) ?_
          exact zg_mask [true, true, true, true] v
theorem rnX6_findConversions {E : Wd} {d : Nat} {a0 : Nat} {x1 : Int32} {h : Hp} {Q : Int32 → Hp → Prop} (k : ∀ (K4 : Nat → Int32 → Int32 → Int32 → Hp → Prop),(∀ (a0 : Nat) (x1 : Int32) (x2 : Int32) (x3 : Int32) h, vcX6_findConversions_4 E d K4 a0 x1 x2 x3 h Q → K4 a0 x1 x2 x3 h) → vcX6_findConversions_0 E d K4 a0 x1 h Q) : OkI E YX6_findConversions (d + 1) [.ref a0, .int x1] h Q :=
  zz_body2 (r := 2) mX6_findConversions (zc_a (zc_i zc_n)) (Nat.le_of_ble_eq_true rfl) (fun X C => zsX6_findConversions_0 C a0 x1 h (k (zkX6_findConversions_4 E X) (fun a0 x1 x2 x3 h v => zsX6_findConversions_4 C a0 x1 x2 x3 h v)))
def vcX6_isConverted_14 (E : Wd) (d : Nat) (K23 : Nat → Int32 → Int32 → Int32 → Int32 → Hp → Prop) (a0 : Nat) (x1 : Int32) (x2 : Int32) (s0 : Int32) (h : Hp) (Q : Int32 → Hp → Prop) : Prop :=
  okA h a0 6 5 ∧ okR E h (fA h a0 5) 0 x1 ∧ K23 a0 x1 x2 s0 (gA h (fA h a0 5) x1) h
def vcX6_isConverted_0 (E : Wd) (d : Nat) (K23 : Nat → Int32 → Int32 → Int32 → Int32 → Hp → Prop) (a0 : Nat) (x1 : Int32) (x2 : Int32) (h : Hp) (Q : Int32 → Hp → Prop) : Prop :=
  okA h a0 6 2 ∧ okR E h (fA h a0 2) 0 x1 ∧ ((gA h (fA h a0 2) x1) ≤ (0 : Int32) → vcX6_isConverted_14 E d K23 a0 x1 x2 0 h Q) ∧ (¬ (gA h (fA h a0 2) x1) ≤ (0 : Int32) → vcX6_isConverted_14 E d K23 a0 x1 x2 1 h Q)
def vcX6_isConverted_112 (E : Wd) (d : Nat) (K23 : Nat → Int32 → Int32 → Int32 → Int32 → Hp → Prop) (a0 : Nat) (x1 : Int32) (x2 : Int32) (x3 : Int32) (x4 : Int32) (s0 : Int32) (h : Hp) (Q : Int32 → Hp → Prop) : Prop :=
  (¬ s0 = x3 → K23 a0 x1 x2 x3 (x4 + 1) h) ∧ (s0 = x3 → mB x3 ∧ Q x3 h)
def vcX6_isConverted_111 (E : Wd) (d : Nat) (K23 : Nat → Int32 → Int32 → Int32 → Int32 → Hp → Prop) (a0 : Nat) (x1 : Int32) (x2 : Int32) (x3 : Int32) (x4 : Int32) (h : Hp) (Q : Int32 → Hp → Prop) : Prop :=
  vcX6_isConverted_112 E d K23 a0 x1 x2 x3 x4 0 h Q
def vcX6_isConverted_94 (E : Wd) (d : Nat) (K23 : Nat → Int32 → Int32 → Int32 → Int32 → Hp → Prop) (a0 : Nat) (x1 : Int32) (x2 : Int32) (x3 : Int32) (x4 : Int32) (s0 : Int32) (h : Hp) (Q : Int32 → Hp → Prop) : Prop :=
  (s0 < (0 : Int32) → vcX6_isConverted_111 E d K23 a0 x1 x2 x3 x4 h Q) ∧ (¬ s0 < (0 : Int32) → (x2 ≤ s0 → vcX6_isConverted_111 E d K23 a0 x1 x2 x3 x4 h Q) ∧ (¬ x2 ≤ s0 → vcX6_isConverted_112 E d K23 a0 x1 x2 x3 x4 1 h Q))
def vcX6_isConverted_84 (E : Wd) (d : Nat) (K23 : Nat → Int32 → Int32 → Int32 → Int32 → Hp → Prop) (a0 : Nat) (x1 : Int32) (x2 : Int32) (x3 : Int32) (x4 : Int32) (h : Hp) (Q : Int32 → Hp → Prop) : Prop :=
  vcX6_isConverted_94 E d K23 a0 x1 x2 x3 x4 0 h Q
def vcX6_isConverted_65 (E : Wd) (d : Nat) (K23 : Nat → Int32 → Int32 → Int32 → Int32 → Hp → Prop) (a0 : Nat) (x1 : Int32) (x2 : Int32) (x3 : Int32) (x4 : Int32) (x5 : Int32) (h : Hp) (Q : Int32 → Hp → Prop) : Prop :=
  isO h a0 6 ∧ OkI E YX6_captures d [.ref a0, .int x1, .int x5] h (fun r2 h1 => (¬ r2 = (0 : Int32) → vcX6_isConverted_84 E d K23 a0 x1 x2 x3 x4 h1 Q) ∧ (r2 = (0 : Int32) → isO h1 a0 6 ∧ OkI E YX6_isEnd d [.ref a0, .int x5] h1 (fun r4 h3 => (r4 = (0 : Int32) → isO h3 a0 6 ∧ OkI E YX6_toConversionOf d [.ref a0, .int x5] h3 (fun r6 h5 => vcX6_isConverted_94 E d K23 a0 x1 x2 x3 x4 r6 h5 Q)) ∧ (¬ r4 = (0 : Int32) → vcX6_isConverted_84 E d K23 a0 x1 x2 x3 x4 h3 Q))))
def vcX6_isConverted_23 (E : Wd) (d : Nat) (K23 : Nat → Int32 → Int32 → Int32 → Int32 → Hp → Prop) (a0 : Nat) (x1 : Int32) (x2 : Int32) (x3 : Int32) (x4 : Int32) (h : Hp) (Q : Int32 → Hp → Prop) : Prop :=
  okA h a0 6 5 ∧ okR E h (fA h a0 5) 0 (x1 + (1 : Int32)) ∧ ((gA h (fA h a0 5) (x1 + (1 : Int32))) ≤ x4 → (¬ x3 = (0 : Int32) → mB 0 ∧ Q 0 h) ∧ (x3 = (0 : Int32) → mB 1 ∧ Q 1 h)) ∧ (¬ (gA h (fA h a0 5) (x1 + (1 : Int32))) ≤ x4 → okA h a0 6 6 ∧ okR E h (fA h a0 6) 0 x4 ∧ isO h a0 6 ∧ OkI E YX6_canonicalOf d [.ref a0, .int (gA h (fA h a0 6) x4)] h (fun r2 h1 => (x3 = (0 : Int32) → vcX6_isConverted_65 E d K23 a0 x1 x2 x3 x4 r2 h1 Q) ∧ (¬ x3 = (0 : Int32) → isO h1 a0 6 ∧ OkI E YX6_valueOf d [.ref a0, .int r2] h1 (fun r4 h3 => (r4 < (0 : Int32) → vcX6_isConverted_65 E d K23 a0 x1 x2 x3 x4 r2 h3 Q) ∧ (¬ r4 < (0 : Int32) → K23 a0 x1 x2 x3 (x4 + 1) h3)))))
def zkX6_isConverted_23 (E : Wd) (X : Mx) : Nat → Int32 → Int32 → Int32 → Int32 → Hp → Prop := fun a0 x1 x2 x3 x4 h => GG E X 8 0 0 23 [some (.ref a0), some (.int x1), some (.int x2), some (.int x3), some (.int x4), none, none, none] [] h
set_option maxRecDepth 100000 in
set_option maxHeartbeats 4000000 in
theorem zsX6_isConverted_14 {E : Wd} {X : Mx} {d : Nat} {Q : Int32 → Hp → Prop} (C : zz_C E X YX6_isConverted (d + 1) 0 0 (fun r h' => ∃ x : Int32, r = some (.int x) ∧ Q x h')) (a0 : Nat) (x1 : Int32) (x2 : Int32) (s0 : Int32) (h : Hp) (v : vcX6_isConverted_14 E d (zkX6_isConverted_23 E X) a0 x1 x2 s0 h Q) : GG E X 8 0 0 14 [some (.ref a0), some (.int x1), some (.int x2), none, none, none, none, none] [.int s0] h := by
  refine zg_istore_n (q := 15) C dX6_isConverted_14 (by decide) rfl ?_
  refine zg_aload_n (q := 16) C dX6_isConverted_15 rfl rfl ?_
  refine zg_get (j := 5) (q := 19) C bX6 (by decide) lkX6_27 dX6_isConverted_16 rfl (okA.get v.1) ?_
  have v := v.2
  refine zg_iload_n (q := 20) C dX6_isConverted_19 rfl rfl ?_
  refine zg_iald (q := 21) C dX6_isConverted_20 rfl v.1 ?_
  have v := v.2
  refine zg_istore (q := 23) C dX6_isConverted_21 (by decide) rfl ?_
  exact zg_mask [true, true, true, true, true, false, false, false] v
set_option maxRecDepth 100000 in
set_option maxHeartbeats 4000000 in
theorem zsX6_isConverted_0 {E : Wd} {X : Mx} {d : Nat} {Q : Int32 → Hp → Prop} (C : zz_C E X YX6_isConverted (d + 1) 0 0 (fun r h' => ∃ x : Int32, r = some (.int x) ∧ Q x h')) (a0 : Nat) (x1 : Int32) (x2 : Int32) (h : Hp) (v : vcX6_isConverted_0 E d (zkX6_isConverted_23 E X) a0 x1 x2 h Q) : GG E X 8 0 0 0 [some (.ref a0), some (.int x1), some (.int x2), none, none, none, none, none] [] h := by
  refine zg_aload_n (q := 1) C dX6_isConverted_0 rfl rfl ?_
  refine zg_get (j := 2) (q := 4) C bX6 (by decide) lkX6_18 dX6_isConverted_1 rfl (okA.get v.1) ?_
  have v := v.2
  refine zg_iload_n (q := 5) C dX6_isConverted_4 rfl rfl ?_
  refine zg_iald (q := 6) C dX6_isConverted_5 rfl v.1 ?_
  have v := v.2
  refine zg_if_le (t := 13) (q := 9) C dX6_isConverted_6 (by decide) rfl (fun c => ?_) (fun c => ?_)
  · have v := v.1 c
    refine zg_iconst (v := 0) (q := 14) C dX6_isConverted_13 (by decide) rfl ?_
    exact zg_mask [true, true, true, false, false, false, false, false] (zsX6_isConverted_14 C _ _ _ _ _ v)
  · have v := v.2 c
    refine zg_iconst (v := 1) (q := 10) C dX6_isConverted_9 (by decide) rfl ?_
    refine zg_goto (t := 14) C dX6_isConverted_10 (by decide) ?_
    exact zg_mask [true, true, true, false, false, false, false, false] (zsX6_isConverted_14 C _ _ _ _ _ v)
set_option maxRecDepth 100000 in
set_option maxHeartbeats 4000000 in
theorem zsX6_isConverted_112 {E : Wd} {X : Mx} {d : Nat} {Q : Int32 → Hp → Prop} (C : zz_C E X YX6_isConverted (d + 1) 0 0 (fun r h' => ∃ x : Int32, r = some (.int x) ∧ Q x h')) (a0 : Nat) (x1 : Int32) (x2 : Int32) (x3 : Int32) (x4 : Int32) (s0 : Int32) (h : Hp) (v : vcX6_isConverted_112 E d (zkX6_isConverted_23 E X) a0 x1 x2 x3 x4 s0 h Q) : GG E X 8 0 0 112 [some (.ref a0), some (.int x1), some (.int x2), some (.int x3), some (.int x4), none, none, none] [.int s0] h := by
  refine zg_istore (q := 114) C dX6_isConverted_112 (by decide) rfl ?_
  refine zg_iload (q := 116) C dX6_isConverted_114 rfl rfl ?_
  refine zg_iload_n (q := 117) C dX6_isConverted_116 rfl rfl ?_
  refine zg_icmp_ne (t := 122) (q := 120) C dX6_isConverted_117 (by decide) rfl (fun c => ?_) (fun c => ?_)
  · have v := v.1 c
    refine zg_iinc (v := 1) (q := 125) C dX6_isConverted_122 rfl (by decide) (by decide) rfl ?_
    refine zg_goto (t := 23) C dX6_isConverted_125 (by decide) ?_
    exact zg_mask [true, true, true, true, true, false, false, false] v
  · have v := v.2 c
    refine zg_iload_n (q := 121) C dX6_isConverted_120 rfl rfl ?_
    exact zg_zret C rfl dX6_isConverted_121 ⟨Nat.le_refl _, Nat.le_refl _⟩ v.1 ⟨_, rfl, v.2⟩
set_option maxRecDepth 100000 in
set_option maxHeartbeats 4000000 in
theorem zsX6_isConverted_111 {E : Wd} {X : Mx} {d : Nat} {Q : Int32 → Hp → Prop} (C : zz_C E X YX6_isConverted (d + 1) 0 0 (fun r h' => ∃ x : Int32, r = some (.int x) ∧ Q x h')) (a0 : Nat) (x1 : Int32) (x2 : Int32) (x3 : Int32) (x4 : Int32) (h : Hp) (v : vcX6_isConverted_111 E d (zkX6_isConverted_23 E X) a0 x1 x2 x3 x4 h Q) : GG E X 8 0 0 111 [some (.ref a0), some (.int x1), some (.int x2), some (.int x3), some (.int x4), none, none, none] [] h := by
  refine zg_iconst (v := 0) (q := 112) C dX6_isConverted_111 (by decide) rfl ?_
  exact zg_mask [true, true, true, true, true, false, false, false] (zsX6_isConverted_112 C _ _ _ _ _ _ _ v)
set_option maxRecDepth 100000 in
set_option maxHeartbeats 4000000 in
theorem zsX6_isConverted_94 {E : Wd} {X : Mx} {d : Nat} {Q : Int32 → Hp → Prop} (C : zz_C E X YX6_isConverted (d + 1) 0 0 (fun r h' => ∃ x : Int32, r = some (.int x) ∧ Q x h')) (a0 : Nat) (x1 : Int32) (x2 : Int32) (x3 : Int32) (x4 : Int32) (s0 : Int32) (h : Hp) (v : vcX6_isConverted_94 E d (zkX6_isConverted_23 E X) a0 x1 x2 x3 x4 s0 h Q) : GG E X 8 0 0 94 [some (.ref a0), some (.int x1), some (.int x2), some (.int x3), some (.int x4), none, none, none] [.int s0] h := by
  refine zg_istore (q := 96) C dX6_isConverted_94 (by decide) rfl ?_
  refine zg_iload (q := 98) C dX6_isConverted_96 rfl rfl ?_
  refine zg_if_lt (t := 111) (q := 101) C dX6_isConverted_98 (by decide) rfl (fun c => ?_) (fun c => ?_)
  · have v := v.1 c
    exact zg_mask [true, true, true, true, true, false, false, false] (zsX6_isConverted_111 C _ _ _ _ _ _ v)
  · have v := v.2 c
    refine zg_iload (q := 103) C dX6_isConverted_101 rfl rfl ?_
    refine zg_iload_n (q := 104) C dX6_isConverted_103 rfl rfl ?_
    refine zg_icmp_ge (t := 111) (q := 107) C dX6_isConverted_104 (by decide) rfl (fun c => ?_) (fun c => ?_)
    · have v := v.1 c
      exact zg_mask [true, true, true, true, true, false, false, false] (zsX6_isConverted_111 C _ _ _ _ _ _ v)
    · have v := v.2 c
      refine zg_iconst (v := 1) (q := 108) C dX6_isConverted_107 (by decide) rfl ?_
      refine zg_goto (t := 112) C dX6_isConverted_108 (by decide) ?_
      exact zg_mask [true, true, true, true, true, false, false, false] (zsX6_isConverted_112 C _ _ _ _ _ _ _ v)
set_option maxRecDepth 100000 in
set_option maxHeartbeats 4000000 in
theorem zsX6_isConverted_84 {E : Wd} {X : Mx} {d : Nat} {Q : Int32 → Hp → Prop} (C : zz_C E X YX6_isConverted (d + 1) 0 0 (fun r h' => ∃ x : Int32, r = some (.int x) ∧ Q x h')) (a0 : Nat) (x1 : Int32) (x2 : Int32) (x3 : Int32) (x4 : Int32) (h : Hp) (v : vcX6_isConverted_84 E d (zkX6_isConverted_23 E X) a0 x1 x2 x3 x4 h Q) : GG E X 8 0 0 84 [some (.ref a0), some (.int x1), some (.int x2), some (.int x3), some (.int x4), none, none, none] [] h := by
  refine zg_iconst (v := 0) (q := 85) C dX6_isConverted_84 (by decide) rfl ?_
  refine zg_goto (t := 94) C dX6_isConverted_85 (by decide) ?_
  exact zg_mask [true, true, true, true, true, false, false, false] (zsX6_isConverted_94 C _ _ _ _ _ _ _ v)
set_option maxRecDepth 100000 in
set_option maxHeartbeats 4000000 in
theorem zsX6_isConverted_65 {E : Wd} {X : Mx} {d : Nat} {Q : Int32 → Hp → Prop} (C : zz_C E X YX6_isConverted (d + 1) 0 0 (fun r h' => ∃ x : Int32, r = some (.int x) ∧ Q x h')) (a0 : Nat) (x1 : Int32) (x2 : Int32) (x3 : Int32) (x4 : Int32) (x5 : Int32) (h : Hp) (v : vcX6_isConverted_65 E d (zkX6_isConverted_23 E X) a0 x1 x2 x3 x4 x5 h Q) : GG E X 8 0 0 65 [some (.ref a0), some (.int x1), some (.int x2), some (.int x3), some (.int x4), some (.int x5), none, none] [] h := by
  refine zg_aload_n (q := 66) C dX6_isConverted_65 rfl rfl ?_
  refine zg_iload_n (q := 67) C dX6_isConverted_66 rfl rfl ?_
  refine zg_iload (q := 69) C dX6_isConverted_67 rfl rfl ?_
  refine zg_cV2I (q := 72) C mX6_captures vX6_captures lmX6_151 rfl (bX6).1 v.1 (Nat.le_of_ble_eq_true rfl) ⟨Nat.le_refl _, Nat.le_refl _⟩ dX6_isConverted_69 rfl v.2 (fun r2 h1 v => ?_)
  refine zg_if_ne (t := 84) (q := 75) C dX6_isConverted_72 (by decide) rfl (fun c => ?_) (fun c => ?_)
  · have v := v.1 c
    exact zg_mask [true, true, true, true, true, false, false, false] (zsX6_isConverted_84 C _ _ _ _ _ _ v)
  · have v := v.2 c
    refine zg_aload_n (q := 76) C dX6_isConverted_75 rfl rfl ?_
    refine zg_iload (q := 78) C dX6_isConverted_76 rfl rfl ?_
    refine zg_cV1I (q := 81) C mX6_isEnd vX6_isEnd lmX6_123 rfl (bX6).1 v.1 (Nat.le_of_ble_eq_true rfl) ⟨Nat.le_refl _, Nat.le_refl _⟩ dX6_isConverted_78 rfl v.2 (fun r4 h3 v => ?_)
    refine zg_if_eq (t := 88) (q := 84) C dX6_isConverted_81 (by decide) rfl (fun c => ?_) (fun c => ?_)
    · have v := v.1 c
      refine zg_aload_n (q := 89) C dX6_isConverted_88 rfl rfl ?_
      refine zg_iload (q := 91) C dX6_isConverted_89 rfl rfl ?_
      refine zg_cV1I (q := 94) C mX6_toConversionOf vX6_toConversionOf lmX6_154 rfl (bX6).1 v.1 (Nat.le_of_ble_eq_true rfl) ⟨Nat.le_refl _, Nat.le_refl _⟩ dX6_isConverted_91 rfl v.2 (fun r6 h5 v => ?_)
      exact zg_mask [true, true, true, true, true, false, false, false] (zsX6_isConverted_94 C _ _ _ _ _ _ _ v)
    · have v := v.2 c
      exact zg_mask [true, true, true, true, true, false, false, false] (zsX6_isConverted_84 C _ _ _ _ _ _ v)
set_option maxRecDepth 100000 in
set_option maxHeartbeats 4000000 in
theorem zsX6_isConverted_23 {E : Wd} {X : Mx} {d : Nat} {Q : Int32 → Hp → Prop} (C : zz_C E X YX6_isConverted (d + 1) 0 0 (fun r h' => ∃ x : Int32, r = some (.int x) ∧ Q x h')) (a0 : Nat) (x1 : Int32) (x2 : Int32) (x3 : Int32) (x4 : Int32) (h : Hp) (v : vcX6_isConverted_23 E d (zkX6_isConverted_23 E X) a0 x1 x2 x3 x4 h Q) : GG E X 8 0 0 23 [some (.ref a0), some (.int x1), some (.int x2), some (.int x3), some (.int x4), none, none, none] [] h := by
  refine zg_iload (q := 25) C dX6_isConverted_23 rfl rfl ?_
  refine zg_aload_n (q := 26) C dX6_isConverted_25 rfl rfl ?_
  refine zg_get (j := 5) (q := 29) C bX6 (by decide) lkX6_27 dX6_isConverted_26 rfl (okA.get v.1) ?_
  have v := v.2
  refine zg_iload_n (q := 30) C dX6_isConverted_29 rfl rfl ?_
  refine zg_iconst (v := 1) (q := 31) C dX6_isConverted_30 (by decide) rfl ?_
  refine zg_iadd (q := 32) C dX6_isConverted_31 rfl ?_
  refine zg_iald (q := 33) C dX6_isConverted_32 rfl v.1 ?_
  have v := v.2
  refine zg_icmp_ge (t := 128) (q := 36) C dX6_isConverted_33 (by decide) rfl (fun c => ?_) (fun c => ?_)
  · have v := v.1 c
    refine zg_iload_n (q := 129) C dX6_isConverted_128 rfl rfl ?_
    refine zg_if_ne (t := 136) (q := 132) C dX6_isConverted_129 (by decide) rfl (fun c => ?_) (fun c => ?_)
    · have v := v.1 c
      refine zg_iconst (v := 0) (q := 137) C dX6_isConverted_136 (by decide) rfl ?_
      exact zg_zret C rfl dX6_isConverted_137 ⟨Nat.le_refl _, Nat.le_refl _⟩ v.1 ⟨_, rfl, v.2⟩
    · have v := v.2 c
      refine zg_iconst (v := 1) (q := 133) C dX6_isConverted_132 (by decide) rfl ?_
      refine zg_goto (t := 137) C dX6_isConverted_133 (by decide) ?_
      exact zg_zret C rfl dX6_isConverted_137 ⟨Nat.le_refl _, Nat.le_refl _⟩ v.1 ⟨_, rfl, v.2⟩
  · have v := v.2 c
    refine zg_aload_n (q := 37) C dX6_isConverted_36 rfl rfl ?_
    refine zg_aload_n (q := 38) C dX6_isConverted_37 rfl rfl ?_
    refine zg_get (j := 6) (q := 41) C bX6 (by decide) lkX6_30 dX6_isConverted_38 rfl (okA.get v.1) ?_
    have v := v.2
    refine zg_iload (q := 43) C dX6_isConverted_41 rfl rfl ?_
    refine zg_iald (q := 44) C dX6_isConverted_43 rfl v.1 ?_
    have v := v.2
    refine zg_cV1I (q := 47) C mX6_canonicalOf vX6_canonicalOf lmX6_138 rfl (bX6).1 v.1 (Nat.le_of_ble_eq_true rfl) ⟨Nat.le_refl _, Nat.le_refl _⟩ dX6_isConverted_44 rfl v.2 (fun r2 h1 v => ?_)
    refine zg_istore (q := 49) C dX6_isConverted_47 (by decide) rfl ?_
    refine zg_iload_n (q := 50) C dX6_isConverted_49 rfl rfl ?_
    refine zg_if_eq (t := 65) (q := 53) C dX6_isConverted_50 (by decide) rfl (fun c => ?_) (fun c => ?_)
    · have v := v.1 c
      exact zg_mask [true, true, true, true, true, true, false, false] (zsX6_isConverted_65 C _ _ _ _ _ _ _ v)
    · have v := v.2 c
      refine zg_aload_n (q := 54) C dX6_isConverted_53 rfl rfl ?_
      refine zg_iload (q := 56) C dX6_isConverted_54 rfl rfl ?_
      refine zg_cV1I (q := 59) C mX6_valueOf vX6_valueOf lmX6_144 rfl (bX6).1 v.1 (Nat.le_of_ble_eq_true rfl) ⟨Nat.le_refl _, Nat.le_refl _⟩ dX6_isConverted_56 rfl v.2 (fun r4 h3 v => ?_)
      refine zg_if_lt (t := 65) (q := 62) C dX6_isConverted_59 (by decide) rfl (fun c => ?_) (fun c => ?_)
      · have v := v.1 c
        exact zg_mask [true, true, true, true, true, true, false, false] (zsX6_isConverted_65 C _ _ _ _ _ _ _ v)
      · have v := v.2 c
        refine zg_goto (t := 122) C dX6_isConverted_62 (by decide) ?_
        refine zg_iinc (v := 1) (q := 125) C dX6_isConverted_122 rfl (by decide) (by decide) rfl ?_
        refine zg_goto (t := 23) C dX6_isConverted_125 (by decide) ?_
        exact zg_mask [true, true, true, true, true, false, false, false] v
theorem rnX6_isConverted {E : Wd} {d : Nat} {a0 : Nat} {x1 : Int32} {x2 : Int32} {h : Hp} {Q : Int32 → Hp → Prop} (k : ∀ (K23 : Nat → Int32 → Int32 → Int32 → Int32 → Hp → Prop),(∀ (a0 : Nat) (x1 : Int32) (x2 : Int32) (x3 : Int32) (x4 : Int32) h, vcX6_isConverted_23 E d K23 a0 x1 x2 x3 x4 h Q → K23 a0 x1 x2 x3 x4 h) → vcX6_isConverted_0 E d K23 a0 x1 x2 h Q) : OkI E YX6_isConverted (d + 1) [.ref a0, .int x1, .int x2] h Q :=
  zz_body2 (r := 5) mX6_isConverted (zc_a (zc_i (zc_i zc_n))) (Nat.le_of_ble_eq_true rfl) (fun X C => zsX6_isConverted_0 C a0 x1 x2 h (k (zkX6_isConverted_23 E X) (fun a0 x1 x2 x3 x4 h v => zsX6_isConverted_23 C a0 x1 x2 x3 x4 h v)))
def vcX6_shareWithImages_0 (E : Wd) (d : Nat) (K2 : Nat → Int32 → Hp → Prop) (a0 : Nat) (h : Hp) (Q : Hp → Prop) : Prop :=
  K2 a0 0 h
def vcX6_shareWithImages_2 (E : Wd) (d : Nat) (K2 : Nat → Int32 → Hp → Prop) (a0 : Nat) (x1 : Int32) (h : Hp) (Q : Hp → Prop) : Prop :=
  okI h a0 6 12 ∧ ((fI h a0 12) ≤ x1 → Q h) ∧ (¬ (fI h a0 12) ≤ x1 → okA h a0 6 0 ∧ okR E h (fA h a0 0) 0 x1 ∧ ((0 : Int32) ≤ (gA h (fA h a0 0) x1) → okA h a0 6 2 ∧ isO h a0 6 ∧ OkI E YX6_valueOf d [.ref a0, .int (gA h (fA h a0 0) x1)] h (fun r2 h1 => okR E h1 (fA h a0 2) 0 x1 ∧ ∀ h3, h3 = sA h1 (fA h a0 2) x1 r2 → okA h3 a0 6 3 ∧ isO h3 a0 6 ∧ OkI E YX6_toEndOf d [.ref a0, .int (gA h (fA h a0 0) x1)] h3 (fun r5 h4 => okR E h4 (fA h3 a0 3) 0 x1 ∧ ∀ h6, h6 = sA h4 (fA h3 a0 3) x1 r5 → okA h6 a0 6 4 ∧ isO h6 a0 6 ∧ OkI E YX6_toConversionOf d [.ref a0, .int (gA h (fA h a0 0) x1)] h6 (fun r8 h7 => okR E h7 (fA h6 a0 4) 0 x1 ∧ ∀ h9, h9 = sA h7 (fA h6 a0 4) x1 r8 → K2 a0 (x1 + 1) h9)))) ∧ (¬ (0 : Int32) ≤ (gA h (fA h a0 0) x1) → K2 a0 (x1 + 1) h))
def zkX6_shareWithImages_2 (E : Wd) (X : Mx) : Nat → Int32 → Hp → Prop := fun a0 x1 h => GG E X 3 0 0 2 [some (.ref a0), some (.int x1), none] [] h
set_option maxRecDepth 100000 in
set_option maxHeartbeats 4000000 in
theorem zsX6_shareWithImages_0 {E : Wd} {X : Mx} {d : Nat} {Q : Hp → Prop} (C : zz_C E X YX6_shareWithImages (d + 1) 0 0 (fun r h' => r = none ∧ Q h')) (a0 : Nat) (h : Hp) (v : vcX6_shareWithImages_0 E d (zkX6_shareWithImages_2 E X) a0 h Q) : GG E X 3 0 0 0 [some (.ref a0), none, none] [] h := by
  refine zg_iconst (v := 0) (q := 1) C dX6_shareWithImages_0 (by decide) rfl ?_
  refine zg_istore_n (q := 2) C dX6_shareWithImages_1 (by decide) rfl ?_
  exact zg_mask [true, true, false] v
set_option maxRecDepth 100000 in
set_option maxHeartbeats 4000000 in
theorem zsX6_shareWithImages_2 {E : Wd} {X : Mx} {d : Nat} {Q : Hp → Prop} (C : zz_C E X YX6_shareWithImages (d + 1) 0 0 (fun r h' => r = none ∧ Q h')) (a0 : Nat) (x1 : Int32) (h : Hp) (v : vcX6_shareWithImages_2 E d (zkX6_shareWithImages_2 E X) a0 x1 h Q) : GG E X 3 0 0 2 [some (.ref a0), some (.int x1), none] [] h := by
  refine zg_iload_n (q := 3) C dX6_shareWithImages_2 rfl rfl ?_
  refine zg_aload_n (q := 4) C dX6_shareWithImages_3 rfl rfl ?_
  refine zg_get (j := 12) (q := 7) C bX6 (by decide) lkX6_62 dX6_shareWithImages_4 rfl (okI.get v.1) ?_
  have v := v.2
  refine zg_icmp_ge (t := 63) (q := 10) C dX6_shareWithImages_7 (by decide) rfl (fun c => ?_) (fun c => ?_)
  · have v := v.1 c
    exact zg_vret C rfl dX6_shareWithImages_63 ⟨Nat.le_refl _, Nat.le_refl _⟩ ⟨rfl, v⟩
  · have v := v.2 c
    refine zg_aload_n (q := 11) C dX6_shareWithImages_10 rfl rfl ?_
    refine zg_get (j := 0) (q := 14) C bX6 (by decide) lkX6_9 dX6_shareWithImages_11 rfl (okA.get v.1) ?_
    have v := v.2
    refine zg_iload_n (q := 15) C dX6_shareWithImages_14 rfl rfl ?_
    refine zg_iald (q := 16) C dX6_shareWithImages_15 rfl v.1 ?_
    have v := v.2
    refine zg_istore_n (q := 17) C dX6_shareWithImages_16 (by decide) rfl ?_
    refine zg_iload_n (q := 18) C dX6_shareWithImages_17 rfl rfl ?_
    refine zg_if_ge (t := 24) (q := 21) C dX6_shareWithImages_18 (by decide) rfl (fun c => ?_) (fun c => ?_)
    · have v := v.1 c
      refine zg_aload_n (q := 25) C dX6_shareWithImages_24 rfl rfl ?_
      refine zg_get (j := 2) (q := 28) C bX6 (by decide) lkX6_18 dX6_shareWithImages_25 rfl (okA.get v.1) ?_
      have v := v.2
      refine zg_iload_n (q := 29) C dX6_shareWithImages_28 rfl rfl ?_
      refine zg_aload_n (q := 30) C dX6_shareWithImages_29 rfl rfl ?_
      refine zg_iload_n (q := 31) C dX6_shareWithImages_30 rfl rfl ?_
      refine zg_cV1I (q := 34) C mX6_valueOf vX6_valueOf lmX6_144 rfl (bX6).1 v.1 (Nat.le_of_ble_eq_true rfl) ⟨Nat.le_refl _, Nat.le_refl _⟩ dX6_shareWithImages_31 rfl v.2 (fun r2 h1 v => ?_)
      refine zg_iast (q := 35) C dX6_shareWithImages_34 rfl v.1 ?_
      have v := v.2 _ rfl
      refine zg_aload_n (q := 36) C dX6_shareWithImages_35 rfl rfl ?_
      refine zg_get (j := 3) (q := 39) C bX6 (by decide) lkX6_21 dX6_shareWithImages_36 rfl (okA.get v.1) ?_
      have v := v.2
      refine zg_iload_n (q := 40) C dX6_shareWithImages_39 rfl rfl ?_
      refine zg_aload_n (q := 41) C dX6_shareWithImages_40 rfl rfl ?_
      refine zg_iload_n (q := 42) C dX6_shareWithImages_41 rfl rfl ?_
      refine zg_cV1I (q := 45) C mX6_toEndOf vX6_toEndOf lmX6_141 rfl (bX6).1 v.1 (Nat.le_of_ble_eq_true rfl) ⟨Nat.le_refl _, Nat.le_refl _⟩ dX6_shareWithImages_42 rfl v.2 (fun r5 h4 v => ?_)
      refine zg_iast (q := 46) C dX6_shareWithImages_45 rfl v.1 ?_
      have v := v.2 _ rfl
      refine zg_aload_n (q := 47) C dX6_shareWithImages_46 rfl rfl ?_
      refine zg_get (j := 4) (q := 50) C bX6 (by decide) lkX6_24 dX6_shareWithImages_47 rfl (okA.get v.1) ?_
      have v := v.2
      refine zg_iload_n (q := 51) C dX6_shareWithImages_50 rfl rfl ?_
      refine zg_aload_n (q := 52) C dX6_shareWithImages_51 rfl rfl ?_
      refine zg_iload_n (q := 53) C dX6_shareWithImages_52 rfl rfl ?_
      refine zg_cV1I (q := 56) C mX6_toConversionOf vX6_toConversionOf lmX6_154 rfl (bX6).1 v.1 (Nat.le_of_ble_eq_true rfl) ⟨Nat.le_refl _, Nat.le_refl _⟩ dX6_shareWithImages_53 rfl v.2 (fun r8 h7 v => ?_)
      refine zg_iast (q := 57) C dX6_shareWithImages_56 rfl v.1 ?_
      have v := v.2 _ rfl
      refine zg_iinc (v := 1) (q := 60) C dX6_shareWithImages_57 rfl (by decide) (by decide) rfl ?_
      refine zg_goto (t := 2) C dX6_shareWithImages_60 (by decide) ?_
      exact zg_mask [true, true, false] v
    · have v := v.2 c
      refine zg_goto (t := 57) C dX6_shareWithImages_21 (by decide) ?_
      refine zg_iinc (v := 1) (q := 60) C dX6_shareWithImages_57 rfl (by decide) (by decide) rfl ?_
      refine zg_goto (t := 2) C dX6_shareWithImages_60 (by decide) ?_
      exact zg_mask [true, true, false] v
theorem rnX6_shareWithImages {E : Wd} {d : Nat} {a0 : Nat} {h : Hp} {Q : Hp → Prop} (k : ∀ (K2 : Nat → Int32 → Hp → Prop),(∀ (a0 : Nat) (x1 : Int32) h, vcX6_shareWithImages_2 E d K2 a0 x1 h Q → K2 a0 x1 h) → vcX6_shareWithImages_0 E d K2 a0 h Q) : OkV E YX6_shareWithImages (d + 1) [.ref a0] h Q :=
  zz_body2 (r := 2) mX6_shareWithImages (zc_a zc_n) (Nat.le_of_ble_eq_true rfl) (fun X C => zsX6_shareWithImages_0 C a0 h (k (zkX6_shareWithImages_2 E X) (fun a0 x1 h v => zsX6_shareWithImages_2 C a0 x1 h v)))
def vcX6_isIndex_0 (E : Wd) (d : Nat) (a0 : Nat) (x1 : Int32) (h : Hp) (Q : Int32 → Hp → Prop) : Prop :=
  (x1 < (0 : Int32) → mB 0 ∧ Q 0 h) ∧ (¬ x1 < (0 : Int32) → okI h a0 6 12 ∧ ((fI h a0 12) ≤ x1 → mB 0 ∧ Q 0 h) ∧ (¬ (fI h a0 12) ≤ x1 → ((4394 : Int32) ≤ x1 → mB 0 ∧ Q 0 h) ∧ (¬ (4394 : Int32) ≤ x1 → mB 1 ∧ Q 1 h)))
set_option maxRecDepth 100000 in
set_option maxHeartbeats 4000000 in
theorem zsX6_isIndex_0 {E : Wd} {X : Mx} {d : Nat} {Q : Int32 → Hp → Prop} (C : zz_C E X YX6_isIndex d 0 0 (fun r h' => ∃ x : Int32, r = some (.int x) ∧ Q x h')) (a0 : Nat) (x1 : Int32) (h : Hp) (v : vcX6_isIndex_0 E d a0 x1 h Q) : GG E X 2 0 0 0 [some (.ref a0), some (.int x1)] [] h := by
  refine zg_iload_n (q := 1) C dX6_isIndex_0 rfl rfl ?_
  refine zg_if_lt (t := 23) (q := 4) C dX6_isIndex_1 (by decide) rfl (fun c => ?_) (fun c => ?_)
  · have v := v.1 c
    refine zg_iconst (v := 0) (q := 24) C dX6_isIndex_23 (by decide) rfl ?_
    exact zg_zret C rfl dX6_isIndex_24 ⟨Nat.le_refl _, Nat.le_refl _⟩ v.1 ⟨_, rfl, v.2⟩
  · have v := v.2 c
    refine zg_iload_n (q := 5) C dX6_isIndex_4 rfl rfl ?_
    refine zg_aload_n (q := 6) C dX6_isIndex_5 rfl rfl ?_
    refine zg_get (j := 12) (q := 9) C bX6 (by decide) lkX6_62 dX6_isIndex_6 rfl (okI.get v.1) ?_
    have v := v.2
    refine zg_icmp_ge (t := 23) (q := 12) C dX6_isIndex_9 (by decide) rfl (fun c => ?_) (fun c => ?_)
    · have v := v.1 c
      refine zg_iconst (v := 0) (q := 24) C dX6_isIndex_23 (by decide) rfl ?_
      exact zg_zret C rfl dX6_isIndex_24 ⟨Nat.le_refl _, Nat.le_refl _⟩ v.1 ⟨_, rfl, v.2⟩
    · have v := v.2 c
      refine zg_iload_n (q := 13) C dX6_isIndex_12 rfl rfl ?_
      refine zg_sipush (v := 4394) (q := 16) C dX6_isIndex_13 (by decide) rfl ?_
      refine zg_icmp_ge (t := 23) (q := 19) C dX6_isIndex_16 (by decide) rfl (fun c => ?_) (fun c => ?_)
      · have v := v.1 c
        refine zg_iconst (v := 0) (q := 24) C dX6_isIndex_23 (by decide) rfl ?_
        exact zg_zret C rfl dX6_isIndex_24 ⟨Nat.le_refl _, Nat.le_refl _⟩ v.1 ⟨_, rfl, v.2⟩
      · have v := v.2 c
        refine zg_iconst (v := 1) (q := 20) C dX6_isIndex_19 (by decide) rfl ?_
        refine zg_goto (t := 24) C dX6_isIndex_20 (by decide) ?_
        exact zg_zret C rfl dX6_isIndex_24 ⟨Nat.le_refl _, Nat.le_refl _⟩ v.1 ⟨_, rfl, v.2⟩
theorem rnX6_isIndex {E : Wd} {d : Nat} {a0 : Nat} {x1 : Int32} {h : Hp} {Q : Int32 → Hp → Prop} (k : vcX6_isIndex_0 E d a0 x1 h Q) : OkI E YX6_isIndex d [.ref a0, .int x1] h Q :=
  zz_body2 (r := 0) mX6_isIndex (zc_a (zc_i zc_n)) (Nat.le_of_ble_eq_true rfl) (fun X C => zsX6_isIndex_0 C a0 x1 h k)
def vcX6_isPossible_0 (E : Wd) (d : Nat) (a0 : Nat) (x1 : Int32) (h : Hp) (Q : Int32 → Hp → Prop) : Prop :=
  isO h a0 6 ∧ OkI E YX6_isIndex d [.ref a0, .int x1] h (fun r2 h1 => (r2 = (0 : Int32) → mB 0 ∧ Q 0 h1) ∧ (¬ r2 = (0 : Int32) → okA h1 a0 6 0 ∧ okR E h1 (fA h1 a0 0) 0 x1 ∧ ((gA h1 (fA h1 a0 0) x1) < (0 : Int32) → mB 0 ∧ Q 0 h1) ∧ (¬ (gA h1 (fA h1 a0 0) x1) < (0 : Int32) → mB 1 ∧ Q 1 h1)))
set_option maxRecDepth 100000 in
set_option maxHeartbeats 4000000 in
theorem zsX6_isPossible_0 {E : Wd} {X : Mx} {d : Nat} {Q : Int32 → Hp → Prop} (C : zz_C E X YX6_isPossible (d + 1) 0 0 (fun r h' => ∃ x : Int32, r = some (.int x) ∧ Q x h')) (a0 : Nat) (x1 : Int32) (h : Hp) (v : vcX6_isPossible_0 E d a0 x1 h Q) : GG E X 2 0 0 0 [some (.ref a0), some (.int x1)] [] h := by
  refine zg_aload_n (q := 1) C dX6_isPossible_0 rfl rfl ?_
  refine zg_iload_n (q := 2) C dX6_isPossible_1 rfl rfl ?_
  refine zg_cV1I (q := 5) C mX6_isIndex vX6_isIndex lmX6_157 rfl (bX6).1 v.1 (Nat.le_of_ble_eq_true rfl) ⟨Nat.le_refl _, Nat.le_refl _⟩ dX6_isPossible_2 rfl v.2 (fun r2 h1 v => ?_)
  refine zg_if_eq (t := 21) (q := 8) C dX6_isPossible_5 (by decide) rfl (fun c => ?_) (fun c => ?_)
  · have v := v.1 c
    refine zg_iconst (v := 0) (q := 22) C dX6_isPossible_21 (by decide) rfl ?_
    exact zg_zret C rfl dX6_isPossible_22 ⟨Nat.le_refl _, Nat.le_refl _⟩ v.1 ⟨_, rfl, v.2⟩
  · have v := v.2 c
    refine zg_aload_n (q := 9) C dX6_isPossible_8 rfl rfl ?_
    refine zg_get (j := 0) (q := 12) C bX6 (by decide) lkX6_9 dX6_isPossible_9 rfl (okA.get v.1) ?_
    have v := v.2
    refine zg_iload_n (q := 13) C dX6_isPossible_12 rfl rfl ?_
    refine zg_iald (q := 14) C dX6_isPossible_13 rfl v.1 ?_
    have v := v.2
    refine zg_if_lt (t := 21) (q := 17) C dX6_isPossible_14 (by decide) rfl (fun c => ?_) (fun c => ?_)
    · have v := v.1 c
      refine zg_iconst (v := 0) (q := 22) C dX6_isPossible_21 (by decide) rfl ?_
      exact zg_zret C rfl dX6_isPossible_22 ⟨Nat.le_refl _, Nat.le_refl _⟩ v.1 ⟨_, rfl, v.2⟩
    · have v := v.2 c
      refine zg_iconst (v := 1) (q := 18) C dX6_isPossible_17 (by decide) rfl ?_
      refine zg_goto (t := 22) C dX6_isPossible_18 (by decide) ?_
      exact zg_zret C rfl dX6_isPossible_22 ⟨Nat.le_refl _, Nat.le_refl _⟩ v.1 ⟨_, rfl, v.2⟩
theorem rnX6_isPossible {E : Wd} {d : Nat} {a0 : Nat} {x1 : Int32} {h : Hp} {Q : Int32 → Hp → Prop} (k : vcX6_isPossible_0 E d a0 x1 h Q) : OkI E YX6_isPossible (d + 1) [.ref a0, .int x1] h Q :=
  zz_body2 (r := 0) mX6_isPossible (zc_a (zc_i zc_n)) (Nat.le_of_ble_eq_true rfl) (fun X C => zsX6_isPossible_0 C a0 x1 h k)
def vcX6_canonicalOf_0 (E : Wd) (d : Nat) (a0 : Nat) (x1 : Int32) (h : Hp) (Q : Int32 → Hp → Prop) : Prop :=
  isO h a0 6 ∧ OkI E YX6_isIndex d [.ref a0, .int x1] h (fun r2 h1 => (r2 = (0 : Int32) → Q ((-1)) h1) ∧ (¬ r2 = (0 : Int32) → okA h1 a0 6 0 ∧ okR E h1 (fA h1 a0 0) 0 x1 ∧ Q (gA h1 (fA h1 a0 0) x1) h1))
set_option maxRecDepth 100000 in
set_option maxHeartbeats 4000000 in
theorem zsX6_canonicalOf_0 {E : Wd} {X : Mx} {d : Nat} {Q : Int32 → Hp → Prop} (C : zz_C E X YX6_canonicalOf (d + 1) 0 0 (fun r h' => ∃ x : Int32, r = some (.int x) ∧ Q x h')) (a0 : Nat) (x1 : Int32) (h : Hp) (v : vcX6_canonicalOf_0 E d a0 x1 h Q) : GG E X 2 0 0 0 [some (.ref a0), some (.int x1)] [] h := by
  refine zg_aload_n (q := 1) C dX6_canonicalOf_0 rfl rfl ?_
  refine zg_iload_n (q := 2) C dX6_canonicalOf_1 rfl rfl ?_
  refine zg_cV1I (q := 5) C mX6_isIndex vX6_isIndex lmX6_157 rfl (bX6).1 v.1 (Nat.le_of_ble_eq_true rfl) ⟨Nat.le_refl _, Nat.le_refl _⟩ dX6_canonicalOf_2 rfl v.2 (fun r2 h1 v => ?_)
  refine zg_if_eq (t := 17) (q := 8) C dX6_canonicalOf_5 (by decide) rfl (fun c => ?_) (fun c => ?_)
  · have v := v.1 c
    refine zg_iconst (v := (-1)) (q := 18) C dX6_canonicalOf_17 (by decide) rfl ?_
    exact zg_iret C rfl dX6_canonicalOf_18 ⟨Nat.le_refl _, Nat.le_refl _⟩ ⟨_, rfl, v⟩
  · have v := v.2 c
    refine zg_aload_n (q := 9) C dX6_canonicalOf_8 rfl rfl ?_
    refine zg_get (j := 0) (q := 12) C bX6 (by decide) lkX6_9 dX6_canonicalOf_9 rfl (okA.get v.1) ?_
    have v := v.2
    refine zg_iload_n (q := 13) C dX6_canonicalOf_12 rfl rfl ?_
    refine zg_iald (q := 14) C dX6_canonicalOf_13 rfl v.1 ?_
    have v := v.2
    refine zg_goto (t := 18) C dX6_canonicalOf_14 (by decide) ?_
    exact zg_iret C rfl dX6_canonicalOf_18 ⟨Nat.le_refl _, Nat.le_refl _⟩ ⟨_, rfl, v⟩
theorem rnX6_canonicalOf {E : Wd} {d : Nat} {a0 : Nat} {x1 : Int32} {h : Hp} {Q : Int32 → Hp → Prop} (k : vcX6_canonicalOf_0 E d a0 x1 h Q) : OkI E YX6_canonicalOf (d + 1) [.ref a0, .int x1] h Q :=
  zz_body2 (r := 0) mX6_canonicalOf (zc_a (zc_i zc_n)) (Nat.le_of_ble_eq_true rfl) (fun X C => zsX6_canonicalOf_0 C a0 x1 h k)
def vcX6_valueOf_0 (E : Wd) (d : Nat) (a0 : Nat) (x1 : Int32) (h : Hp) (Q : Int32 → Hp → Prop) : Prop :=
  isO h a0 6 ∧ OkI E YX6_isIndex d [.ref a0, .int x1] h (fun r2 h1 => (r2 = (0 : Int32) → Q 0 h1) ∧ (¬ r2 = (0 : Int32) → okA h1 a0 6 2 ∧ okR E h1 (fA h1 a0 2) 0 x1 ∧ Q (gA h1 (fA h1 a0 2) x1) h1))
set_option maxRecDepth 100000 in
set_option maxHeartbeats 4000000 in
theorem zsX6_valueOf_0 {E : Wd} {X : Mx} {d : Nat} {Q : Int32 → Hp → Prop} (C : zz_C E X YX6_valueOf (d + 1) 0 0 (fun r h' => ∃ x : Int32, r = some (.int x) ∧ Q x h')) (a0 : Nat) (x1 : Int32) (h : Hp) (v : vcX6_valueOf_0 E d a0 x1 h Q) : GG E X 2 0 0 0 [some (.ref a0), some (.int x1)] [] h := by
  refine zg_aload_n (q := 1) C dX6_valueOf_0 rfl rfl ?_
  refine zg_iload_n (q := 2) C dX6_valueOf_1 rfl rfl ?_
  refine zg_cV1I (q := 5) C mX6_isIndex vX6_isIndex lmX6_157 rfl (bX6).1 v.1 (Nat.le_of_ble_eq_true rfl) ⟨Nat.le_refl _, Nat.le_refl _⟩ dX6_valueOf_2 rfl v.2 (fun r2 h1 v => ?_)
  refine zg_if_eq (t := 17) (q := 8) C dX6_valueOf_5 (by decide) rfl (fun c => ?_) (fun c => ?_)
  · have v := v.1 c
    refine zg_iconst (v := 0) (q := 18) C dX6_valueOf_17 (by decide) rfl ?_
    exact zg_iret C rfl dX6_valueOf_18 ⟨Nat.le_refl _, Nat.le_refl _⟩ ⟨_, rfl, v⟩
  · have v := v.2 c
    refine zg_aload_n (q := 9) C dX6_valueOf_8 rfl rfl ?_
    refine zg_get (j := 2) (q := 12) C bX6 (by decide) lkX6_18 dX6_valueOf_9 rfl (okA.get v.1) ?_
    have v := v.2
    refine zg_iload_n (q := 13) C dX6_valueOf_12 rfl rfl ?_
    refine zg_iald (q := 14) C dX6_valueOf_13 rfl v.1 ?_
    have v := v.2
    refine zg_goto (t := 18) C dX6_valueOf_14 (by decide) ?_
    exact zg_iret C rfl dX6_valueOf_18 ⟨Nat.le_refl _, Nat.le_refl _⟩ ⟨_, rfl, v⟩
theorem rnX6_valueOf {E : Wd} {d : Nat} {a0 : Nat} {x1 : Int32} {h : Hp} {Q : Int32 → Hp → Prop} (k : vcX6_valueOf_0 E d a0 x1 h Q) : OkI E YX6_valueOf (d + 1) [.ref a0, .int x1] h Q :=
  zz_body2 (r := 0) mX6_valueOf (zc_a (zc_i zc_n)) (Nat.le_of_ble_eq_true rfl) (fun X C => zsX6_valueOf_0 C a0 x1 h k)
def vcX6_toEndOf_0 (E : Wd) (d : Nat) (a0 : Nat) (x1 : Int32) (h : Hp) (Q : Int32 → Hp → Prop) : Prop :=
  isO h a0 6 ∧ OkI E YX6_isIndex d [.ref a0, .int x1] h (fun r2 h1 => (r2 = (0 : Int32) → Q ((-5)) h1) ∧ (¬ r2 = (0 : Int32) → okA h1 a0 6 3 ∧ okR E h1 (fA h1 a0 3) 0 x1 ∧ Q (gA h1 (fA h1 a0 3) x1) h1))
set_option maxRecDepth 100000 in
set_option maxHeartbeats 4000000 in
theorem zsX6_toEndOf_0 {E : Wd} {X : Mx} {d : Nat} {Q : Int32 → Hp → Prop} (C : zz_C E X YX6_toEndOf (d + 1) 0 0 (fun r h' => ∃ x : Int32, r = some (.int x) ∧ Q x h')) (a0 : Nat) (x1 : Int32) (h : Hp) (v : vcX6_toEndOf_0 E d a0 x1 h Q) : GG E X 2 0 0 0 [some (.ref a0), some (.int x1)] [] h := by
  refine zg_aload_n (q := 1) C dX6_toEndOf_0 rfl rfl ?_
  refine zg_iload_n (q := 2) C dX6_toEndOf_1 rfl rfl ?_
  refine zg_cV1I (q := 5) C mX6_isIndex vX6_isIndex lmX6_157 rfl (bX6).1 v.1 (Nat.le_of_ble_eq_true rfl) ⟨Nat.le_refl _, Nat.le_refl _⟩ dX6_toEndOf_2 rfl v.2 (fun r2 h1 v => ?_)
  refine zg_if_eq (t := 17) (q := 8) C dX6_toEndOf_5 (by decide) rfl (fun c => ?_) (fun c => ?_)
  · have v := v.1 c
    refine zg_bipush (v := (-5)) (q := 19) C dX6_toEndOf_17 (by decide) rfl ?_
    exact zg_iret C rfl dX6_toEndOf_19 ⟨Nat.le_refl _, Nat.le_refl _⟩ ⟨_, rfl, v⟩
  · have v := v.2 c
    refine zg_aload_n (q := 9) C dX6_toEndOf_8 rfl rfl ?_
    refine zg_get (j := 3) (q := 12) C bX6 (by decide) lkX6_21 dX6_toEndOf_9 rfl (okA.get v.1) ?_
    have v := v.2
    refine zg_iload_n (q := 13) C dX6_toEndOf_12 rfl rfl ?_
    refine zg_iald (q := 14) C dX6_toEndOf_13 rfl v.1 ?_
    have v := v.2
    refine zg_goto (t := 19) C dX6_toEndOf_14 (by decide) ?_
    exact zg_iret C rfl dX6_toEndOf_19 ⟨Nat.le_refl _, Nat.le_refl _⟩ ⟨_, rfl, v⟩
theorem rnX6_toEndOf {E : Wd} {d : Nat} {a0 : Nat} {x1 : Int32} {h : Hp} {Q : Int32 → Hp → Prop} (k : vcX6_toEndOf_0 E d a0 x1 h Q) : OkI E YX6_toEndOf (d + 1) [.ref a0, .int x1] h Q :=
  zz_body2 (r := 0) mX6_toEndOf (zc_a (zc_i zc_n)) (Nat.le_of_ble_eq_true rfl) (fun X C => zsX6_toEndOf_0 C a0 x1 h k)
def vcX6_toConversionOf_0 (E : Wd) (d : Nat) (a0 : Nat) (x1 : Int32) (h : Hp) (Q : Int32 → Hp → Prop) : Prop :=
  isO h a0 6 ∧ OkI E YX6_isIndex d [.ref a0, .int x1] h (fun r2 h1 => (r2 = (0 : Int32) → Q ((-5)) h1) ∧ (¬ r2 = (0 : Int32) → okA h1 a0 6 4 ∧ okR E h1 (fA h1 a0 4) 0 x1 ∧ Q (gA h1 (fA h1 a0 4) x1) h1))
set_option maxRecDepth 100000 in
set_option maxHeartbeats 4000000 in
theorem zsX6_toConversionOf_0 {E : Wd} {X : Mx} {d : Nat} {Q : Int32 → Hp → Prop} (C : zz_C E X YX6_toConversionOf (d + 1) 0 0 (fun r h' => ∃ x : Int32, r = some (.int x) ∧ Q x h')) (a0 : Nat) (x1 : Int32) (h : Hp) (v : vcX6_toConversionOf_0 E d a0 x1 h Q) : GG E X 2 0 0 0 [some (.ref a0), some (.int x1)] [] h := by
  refine zg_aload_n (q := 1) C dX6_toConversionOf_0 rfl rfl ?_
  refine zg_iload_n (q := 2) C dX6_toConversionOf_1 rfl rfl ?_
  refine zg_cV1I (q := 5) C mX6_isIndex vX6_isIndex lmX6_157 rfl (bX6).1 v.1 (Nat.le_of_ble_eq_true rfl) ⟨Nat.le_refl _, Nat.le_refl _⟩ dX6_toConversionOf_2 rfl v.2 (fun r2 h1 v => ?_)
  refine zg_if_eq (t := 17) (q := 8) C dX6_toConversionOf_5 (by decide) rfl (fun c => ?_) (fun c => ?_)
  · have v := v.1 c
    refine zg_bipush (v := (-5)) (q := 19) C dX6_toConversionOf_17 (by decide) rfl ?_
    exact zg_iret C rfl dX6_toConversionOf_19 ⟨Nat.le_refl _, Nat.le_refl _⟩ ⟨_, rfl, v⟩
  · have v := v.2 c
    refine zg_aload_n (q := 9) C dX6_toConversionOf_8 rfl rfl ?_
    refine zg_get (j := 4) (q := 12) C bX6 (by decide) lkX6_24 dX6_toConversionOf_9 rfl (okA.get v.1) ?_
    have v := v.2
    refine zg_iload_n (q := 13) C dX6_toConversionOf_12 rfl rfl ?_
    refine zg_iald (q := 14) C dX6_toConversionOf_13 rfl v.1 ?_
    have v := v.2
    refine zg_goto (t := 19) C dX6_toConversionOf_14 (by decide) ?_
    exact zg_iret C rfl dX6_toConversionOf_19 ⟨Nat.le_refl _, Nat.le_refl _⟩ ⟨_, rfl, v⟩
theorem rnX6_toConversionOf {E : Wd} {d : Nat} {a0 : Nat} {x1 : Int32} {h : Hp} {Q : Int32 → Hp → Prop} (k : vcX6_toConversionOf_0 E d a0 x1 h Q) : OkI E YX6_toConversionOf (d + 1) [.ref a0, .int x1] h Q :=
  zz_body2 (r := 0) mX6_toConversionOf (zc_a (zc_i zc_n)) (Nat.le_of_ble_eq_true rfl) (fun X C => zsX6_toConversionOf_0 C a0 x1 h k)
def vcX6_distanceOf_0 (E : Wd) (d : Nat) (a0 : Nat) (x1 : Int32) (x2 : Int32) (h : Hp) (Q : Int32 → Hp → Prop) : Prop :=
  (¬ x1 = (0 : Int32) → isO h a0 6 ∧ OkI E YX6_toConversionOf d [.ref a0, .int x2] h (fun r2 h1 => Q r2 h1)) ∧ (x1 = (0 : Int32) → isO h a0 6 ∧ OkI E YX6_toEndOf d [.ref a0, .int x2] h (fun r4 h3 => Q r4 h3))
set_option maxRecDepth 100000 in
set_option maxHeartbeats 4000000 in
theorem zsX6_distanceOf_0 {E : Wd} {X : Mx} {d : Nat} {Q : Int32 → Hp → Prop} (C : zz_C E X YX6_distanceOf (d + 1) 0 0 (fun r h' => ∃ x : Int32, r = some (.int x) ∧ Q x h')) (a0 : Nat) (x1 : Int32) (x2 : Int32) (h : Hp) (v : vcX6_distanceOf_0 E d a0 x1 x2 h Q) : GG E X 3 0 0 0 [some (.ref a0), some (.int x1), some (.int x2)] [] h := by
  refine zg_iload_n (q := 1) C dX6_distanceOf_0 rfl rfl ?_
  refine zg_if_ne (t := 12) (q := 4) C dX6_distanceOf_1 (by decide) rfl (fun c => ?_) (fun c => ?_)
  · have v := v.1 c
    refine zg_aload_n (q := 13) C dX6_distanceOf_12 rfl rfl ?_
    refine zg_iload_n (q := 14) C dX6_distanceOf_13 rfl rfl ?_
    refine zg_cV1I (q := 17) C mX6_toConversionOf vX6_toConversionOf lmX6_154 rfl (bX6).1 v.1 (Nat.le_of_ble_eq_true rfl) ⟨Nat.le_refl _, Nat.le_refl _⟩ dX6_distanceOf_14 rfl v.2 (fun r2 h1 v => ?_)
    exact zg_iret C rfl dX6_distanceOf_17 ⟨Nat.le_refl _, Nat.le_refl _⟩ ⟨_, rfl, v⟩
  · have v := v.2 c
    refine zg_aload_n (q := 5) C dX6_distanceOf_4 rfl rfl ?_
    refine zg_iload_n (q := 6) C dX6_distanceOf_5 rfl rfl ?_
    refine zg_cV1I (q := 9) C mX6_toEndOf vX6_toEndOf lmX6_141 rfl (bX6).1 v.1 (Nat.le_of_ble_eq_true rfl) ⟨Nat.le_refl _, Nat.le_refl _⟩ dX6_distanceOf_6 rfl v.2 (fun r4 h3 v => ?_)
    refine zg_goto (t := 17) C dX6_distanceOf_9 (by decide) ?_
    exact zg_iret C rfl dX6_distanceOf_17 ⟨Nat.le_refl _, Nat.le_refl _⟩ ⟨_, rfl, v⟩
theorem rnX6_distanceOf {E : Wd} {d : Nat} {a0 : Nat} {x1 : Int32} {x2 : Int32} {h : Hp} {Q : Int32 → Hp → Prop} (k : vcX6_distanceOf_0 E d a0 x1 x2 h Q) : OkI E YX6_distanceOf (d + 1) [.ref a0, .int x1, .int x2] h Q :=
  zz_body2 (r := 0) mX6_distanceOf (zc_a (zc_i (zc_i zc_n))) (Nat.le_of_ble_eq_true rfl) (fun X C => zsX6_distanceOf_0 C a0 x1 x2 h k)
def vcX6_verdictOf_0 (E : Wd) (d : Nat) (a0 : Nat) (x1 : Int32) (h : Hp) (Q : Int32 → Hp → Prop) : Prop :=
  okA h a0 6 8 ∧ okI h (fA h a0 8) 4 8 ∧ ((fI h (fA h a0 8) 8) < (0 : Int32) → isO h a0 6 ∧ OkI E YX6_valueOf d [.ref a0, .int x1] h (fun r2 h1 => Q r2 h1)) ∧ (¬ (fI h (fA h a0 8) 8) < (0 : Int32) → isO h a0 6 ∧ OkI E YX6_toConversionOf d [.ref a0, .int x1] h (fun r4 h3 => okA h3 a0 6 8 ∧ okI h3 (fA h3 a0 8) 4 8 ∧ (r4 ≤ (fI h3 (fA h3 a0 8) 8) → isO h3 a0 6 ∧ OkI E YX6_valueOf d [.ref a0, .int x1] h3 (fun r6 h5 => Q r6 h5)) ∧ (¬ r4 ≤ (fI h3 (fA h3 a0 8) 8) → Q 0 h3)))
set_option maxRecDepth 100000 in
set_option maxHeartbeats 4000000 in
theorem zsX6_verdictOf_0 {E : Wd} {X : Mx} {d : Nat} {Q : Int32 → Hp → Prop} (C : zz_C E X YX6_verdictOf (d + 1) 0 0 (fun r h' => ∃ x : Int32, r = some (.int x) ∧ Q x h')) (a0 : Nat) (x1 : Int32) (h : Hp) (v : vcX6_verdictOf_0 E d a0 x1 h Q) : GG E X 2 0 0 0 [some (.ref a0), some (.int x1)] [] h := by
  refine zg_aload_n (q := 1) C dX6_verdictOf_0 rfl rfl ?_
  refine zg_get (j := 8) (q := 4) C bX6 (by decide) lkX6_36 dX6_verdictOf_1 rfl (okA.get v.1) ?_
  have v := v.2
  refine zg_getN (j := 8) (q := 7) C bX4 (by decide) lkX6_160 dX6_verdictOf_4 rfl (okI.get v.1) ?_
  have v := v.2
  refine zg_if_lt (t := 27) (q := 10) C dX6_verdictOf_7 (by decide) rfl (fun c => ?_) (fun c => ?_)
  · have v := v.1 c
    refine zg_aload_n (q := 28) C dX6_verdictOf_27 rfl rfl ?_
    refine zg_iload_n (q := 29) C dX6_verdictOf_28 rfl rfl ?_
    refine zg_cV1I (q := 32) C mX6_valueOf vX6_valueOf lmX6_144 rfl (bX6).1 v.1 (Nat.le_of_ble_eq_true rfl) ⟨Nat.le_refl _, Nat.le_refl _⟩ dX6_verdictOf_29 rfl v.2 (fun r2 h1 v => ?_)
    exact zg_iret C rfl dX6_verdictOf_32 ⟨Nat.le_refl _, Nat.le_refl _⟩ ⟨_, rfl, v⟩
  · have v := v.2 c
    refine zg_aload_n (q := 11) C dX6_verdictOf_10 rfl rfl ?_
    refine zg_iload_n (q := 12) C dX6_verdictOf_11 rfl rfl ?_
    refine zg_cV1I (q := 15) C mX6_toConversionOf vX6_toConversionOf lmX6_154 rfl (bX6).1 v.1 (Nat.le_of_ble_eq_true rfl) ⟨Nat.le_refl _, Nat.le_refl _⟩ dX6_verdictOf_12 rfl v.2 (fun r4 h3 v => ?_)
    refine zg_aload_n (q := 16) C dX6_verdictOf_15 rfl rfl ?_
    refine zg_get (j := 8) (q := 19) C bX6 (by decide) lkX6_36 dX6_verdictOf_16 rfl (okA.get v.1) ?_
    have v := v.2
    refine zg_getN (j := 8) (q := 22) C bX4 (by decide) lkX6_160 dX6_verdictOf_19 rfl (okI.get v.1) ?_
    have v := v.2
    refine zg_icmp_le (t := 27) (q := 25) C dX6_verdictOf_22 (by decide) rfl (fun c => ?_) (fun c => ?_)
    · have v := v.1 c
      refine zg_aload_n (q := 28) C dX6_verdictOf_27 rfl rfl ?_
      refine zg_iload_n (q := 29) C dX6_verdictOf_28 rfl rfl ?_
      refine zg_cV1I (q := 32) C mX6_valueOf vX6_valueOf lmX6_144 rfl (bX6).1 v.1 (Nat.le_of_ble_eq_true rfl) ⟨Nat.le_refl _, Nat.le_refl _⟩ dX6_verdictOf_29 rfl v.2 (fun r6 h5 v => ?_)
      exact zg_iret C rfl dX6_verdictOf_32 ⟨Nat.le_refl _, Nat.le_refl _⟩ ⟨_, rfl, v⟩
    · have v := v.2 c
      refine zg_iconst (v := 0) (q := 26) C dX6_verdictOf_25 (by decide) rfl ?_
      exact zg_iret C rfl dX6_verdictOf_26 ⟨Nat.le_refl _, Nat.le_refl _⟩ ⟨_, rfl, v⟩
theorem rnX6_verdictOf {E : Wd} {d : Nat} {a0 : Nat} {x1 : Int32} {h : Hp} {Q : Int32 → Hp → Prop} (k : vcX6_verdictOf_0 E d a0 x1 h Q) : OkI E YX6_verdictOf (d + 1) [.ref a0, .int x1] h Q :=
  zz_body2 (r := 0) mX6_verdictOf (zc_a (zc_i zc_n)) (Nat.le_of_ble_eq_true rfl) (fun X C => zsX6_verdictOf_0 C a0 x1 h k)
def vcX6_isRoyalAttacked_0 (E : Wd) (d : Nat) (a0 : Nat) (x1 : Int32) (h : Hp) (Q : Int32 → Hp → Prop) : Prop :=
  okA h a0 6 10 ∧ isO h (fA h a0 10) 1 ∧ OkV E YX1_read d [.ref (fA h a0 10), .int x1] h (fun h1 => okA h1 a0 6 10 ∧ isO h1 (fA h1 a0 10) 1 ∧ OkI E YX1_isAttacked d [.ref (fA h1 a0 10), .int (x1 &&& (1 : Int32))] h1 (fun r3 h2 => mB r3 ∧ Q r3 h2))
set_option maxRecDepth 100000 in
set_option maxHeartbeats 4000000 in
theorem zsX6_isRoyalAttacked_0 {E : Wd} {X : Mx} {d : Nat} {Q : Int32 → Hp → Prop} (C : zz_C E X YX6_isRoyalAttacked (d + 1) 0 0 (fun r h' => ∃ x : Int32, r = some (.int x) ∧ Q x h')) (a0 : Nat) (x1 : Int32) (h : Hp) (v : vcX6_isRoyalAttacked_0 E d a0 x1 h Q) : GG E X 2 0 0 0 [some (.ref a0), some (.int x1)] [] h := by
  refine zg_aload_n (q := 1) C dX6_isRoyalAttacked_0 rfl rfl ?_
  refine zg_get (j := 10) (q := 4) C bX6 (by decide) lkX6_52 dX6_isRoyalAttacked_1 rfl (okA.get v.1) ?_
  have v := v.2
  refine zg_iload_n (q := 5) C dX6_isRoyalAttacked_4 rfl rfl ?_
  refine zg_cV1V (q := 8) C mX1_read vX1_read lmX6_85 rfl (bX1).1 v.1 (Nat.le_of_ble_eq_true rfl) ⟨Nat.le_refl _, Nat.le_refl _⟩ dX6_isRoyalAttacked_5 rfl v.2 (fun h1 v => ?_)
  refine zg_aload_n (q := 9) C dX6_isRoyalAttacked_8 rfl rfl ?_
  refine zg_get (j := 10) (q := 12) C bX6 (by decide) lkX6_52 dX6_isRoyalAttacked_9 rfl (okA.get v.1) ?_
  have v := v.2
  refine zg_iload_n (q := 13) C dX6_isRoyalAttacked_12 rfl rfl ?_
  refine zg_iconst (v := 1) (q := 14) C dX6_isRoyalAttacked_13 (by decide) rfl ?_
  refine zg_iand (q := 15) C dX6_isRoyalAttacked_14 rfl ?_
  refine zg_cV1I (q := 18) C mX1_isAttacked vX1_isAttacked lmX6_163 rfl (bX1).1 v.1 (Nat.le_of_ble_eq_true rfl) ⟨Nat.le_refl _, Nat.le_refl _⟩ dX6_isRoyalAttacked_15 rfl v.2 (fun r3 h2 v => ?_)
  exact zg_zret C rfl dX6_isRoyalAttacked_18 ⟨Nat.le_refl _, Nat.le_refl _⟩ v.1 ⟨_, rfl, v.2⟩
theorem rnX6_isRoyalAttacked {E : Wd} {d : Nat} {a0 : Nat} {x1 : Int32} {h : Hp} {Q : Int32 → Hp → Prop} (k : vcX6_isRoyalAttacked_0 E d a0 x1 h Q) : OkI E YX6_isRoyalAttacked (d + 1) [.ref a0, .int x1] h Q :=
  zz_body2 (r := 0) mX6_isRoyalAttacked (zc_a (zc_i zc_n)) (Nat.le_of_ble_eq_true rfl) (fun X C => zsX6_isRoyalAttacked_0 C a0 x1 h k)
def vcX6_stepsOf_0 (E : Wd) (d : Nat) (a0 : Nat) (x1 : Int32) (h : Hp) (Q : Int32 → Hp → Prop) : Prop :=
  isO h a0 6 ∧ OkI E YX6_isIndex d [.ref a0, .int x1] h (fun r2 h1 => (r2 = (0 : Int32) → Q 0 h1) ∧ (¬ r2 = (0 : Int32) → okA h1 a0 6 5 ∧ okR E h1 (fA h1 a0 5) 0 (x1 + (1 : Int32)) ∧ okA h1 a0 6 5 ∧ okR E h1 (fA h1 a0 5) 0 x1 ∧ Q ((gA h1 (fA h1 a0 5) (x1 + (1 : Int32))) - (gA h1 (fA h1 a0 5) x1)) h1))
set_option maxRecDepth 100000 in
set_option maxHeartbeats 4000000 in
theorem zsX6_stepsOf_0 {E : Wd} {X : Mx} {d : Nat} {Q : Int32 → Hp → Prop} (C : zz_C E X YX6_stepsOf (d + 1) 0 0 (fun r h' => ∃ x : Int32, r = some (.int x) ∧ Q x h')) (a0 : Nat) (x1 : Int32) (h : Hp) (v : vcX6_stepsOf_0 E d a0 x1 h Q) : GG E X 2 0 0 0 [some (.ref a0), some (.int x1)] [] h := by
  refine zg_aload_n (q := 1) C dX6_stepsOf_0 rfl rfl ?_
  refine zg_iload_n (q := 2) C dX6_stepsOf_1 rfl rfl ?_
  refine zg_cV1I (q := 5) C mX6_isIndex vX6_isIndex lmX6_157 rfl (bX6).1 v.1 (Nat.le_of_ble_eq_true rfl) ⟨Nat.le_refl _, Nat.le_refl _⟩ dX6_stepsOf_2 rfl v.2 (fun r2 h1 v => ?_)
  refine zg_if_eq (t := 26) (q := 8) C dX6_stepsOf_5 (by decide) rfl (fun c => ?_) (fun c => ?_)
  · have v := v.1 c
    refine zg_iconst (v := 0) (q := 27) C dX6_stepsOf_26 (by decide) rfl ?_
    exact zg_iret C rfl dX6_stepsOf_27 ⟨Nat.le_refl _, Nat.le_refl _⟩ ⟨_, rfl, v⟩
  · have v := v.2 c
    refine zg_aload_n (q := 9) C dX6_stepsOf_8 rfl rfl ?_
    refine zg_get (j := 5) (q := 12) C bX6 (by decide) lkX6_27 dX6_stepsOf_9 rfl (okA.get v.1) ?_
    have v := v.2
    refine zg_iload_n (q := 13) C dX6_stepsOf_12 rfl rfl ?_
    refine zg_iconst (v := 1) (q := 14) C dX6_stepsOf_13 (by decide) rfl ?_
    refine zg_iadd (q := 15) C dX6_stepsOf_14 rfl ?_
    refine zg_iald (q := 16) C dX6_stepsOf_15 rfl v.1 ?_
    have v := v.2
    refine zg_aload_n (q := 17) C dX6_stepsOf_16 rfl rfl ?_
    refine zg_get (j := 5) (q := 20) C bX6 (by decide) lkX6_27 dX6_stepsOf_17 rfl (okA.get v.1) ?_
    have v := v.2
    refine zg_iload_n (q := 21) C dX6_stepsOf_20 rfl rfl ?_
    refine zg_iald (q := 22) C dX6_stepsOf_21 rfl v.1 ?_
    have v := v.2
    refine zg_isub (q := 23) C dX6_stepsOf_22 rfl ?_
    refine zg_goto (t := 27) C dX6_stepsOf_23 (by decide) ?_
    exact zg_iret C rfl dX6_stepsOf_27 ⟨Nat.le_refl _, Nat.le_refl _⟩ ⟨_, rfl, v⟩
theorem rnX6_stepsOf {E : Wd} {d : Nat} {a0 : Nat} {x1 : Int32} {h : Hp} {Q : Int32 → Hp → Prop} (k : vcX6_stepsOf_0 E d a0 x1 h Q) : OkI E YX6_stepsOf (d + 1) [.ref a0, .int x1] h Q :=
  zz_body2 (r := 0) mX6_stepsOf (zc_a (zc_i zc_n)) (Nat.le_of_ble_eq_true rfl) (fun X C => zsX6_stepsOf_0 C a0 x1 h k)
def vcX6_isEnd_0 (E : Wd) (d : Nat) (a0 : Nat) (x1 : Int32) (h : Hp) (Q : Int32 → Hp → Prop) : Prop :=
  isO h a0 6 ∧ OkI E YX6_stepsOf d [.ref a0, .int x1] h (fun r2 h1 => (¬ r2 = (0 : Int32) → mB 0 ∧ Q 0 h1) ∧ (r2 = (0 : Int32) → mB 1 ∧ Q 1 h1))
set_option maxRecDepth 100000 in
set_option maxHeartbeats 4000000 in
theorem zsX6_isEnd_0 {E : Wd} {X : Mx} {d : Nat} {Q : Int32 → Hp → Prop} (C : zz_C E X YX6_isEnd (d + 1) 0 0 (fun r h' => ∃ x : Int32, r = some (.int x) ∧ Q x h')) (a0 : Nat) (x1 : Int32) (h : Hp) (v : vcX6_isEnd_0 E d a0 x1 h Q) : GG E X 2 0 0 0 [some (.ref a0), some (.int x1)] [] h := by
  refine zg_aload_n (q := 1) C dX6_isEnd_0 rfl rfl ?_
  refine zg_iload_n (q := 2) C dX6_isEnd_1 rfl rfl ?_
  refine zg_cV1I (q := 5) C mX6_stepsOf vX6_stepsOf lmX6_166 rfl (bX6).1 v.1 (Nat.le_of_ble_eq_true rfl) ⟨Nat.le_refl _, Nat.le_refl _⟩ dX6_isEnd_2 rfl v.2 (fun r2 h1 v => ?_)
  refine zg_if_ne (t := 12) (q := 8) C dX6_isEnd_5 (by decide) rfl (fun c => ?_) (fun c => ?_)
  · have v := v.1 c
    refine zg_iconst (v := 0) (q := 13) C dX6_isEnd_12 (by decide) rfl ?_
    exact zg_zret C rfl dX6_isEnd_13 ⟨Nat.le_refl _, Nat.le_refl _⟩ v.1 ⟨_, rfl, v.2⟩
  · have v := v.2 c
    refine zg_iconst (v := 1) (q := 9) C dX6_isEnd_8 (by decide) rfl ?_
    refine zg_goto (t := 13) C dX6_isEnd_9 (by decide) ?_
    exact zg_zret C rfl dX6_isEnd_13 ⟨Nat.le_refl _, Nat.le_refl _⟩ v.1 ⟨_, rfl, v.2⟩
theorem rnX6_isEnd {E : Wd} {d : Nat} {a0 : Nat} {x1 : Int32} {h : Hp} {Q : Int32 → Hp → Prop} (k : vcX6_isEnd_0 E d a0 x1 h Q) : OkI E YX6_isEnd (d + 1) [.ref a0, .int x1] h Q :=
  zz_body2 (r := 0) mX6_isEnd (zc_a (zc_i zc_n)) (Nat.le_of_ble_eq_true rfl) (fun X C => zsX6_isEnd_0 C a0 x1 h k)
def vcX6_stepOf_0 (E : Wd) (d : Nat) (a0 : Nat) (x1 : Int32) (x2 : Int32) (h : Hp) (Q : Int32 → Hp → Prop) : Prop :=
  (x2 < (0 : Int32) → Q ((-1)) h) ∧ (¬ x2 < (0 : Int32) → isO h a0 6 ∧ OkI E YX6_stepsOf d [.ref a0, .int x1] h (fun r2 h1 => (x2 < r2 → okA h1 a0 6 5 ∧ okR E h1 (fA h1 a0 5) 0 x1 ∧ (((gA h1 (fA h1 a0 5) x1) + x2) < (0 : Int32) → Q ((-1)) h1) ∧ (¬ ((gA h1 (fA h1 a0 5) x1) + x2) < (0 : Int32) → okA h1 a0 6 6 ∧ okL E h1 (fA h1 a0 6) 0 ∧ ((lA h1 (fA h1 a0 6)) ≤ ((gA h1 (fA h1 a0 5) x1) + x2) → Q ((-1)) h1) ∧ (¬ (lA h1 (fA h1 a0 6)) ≤ ((gA h1 (fA h1 a0 5) x1) + x2) → okA h1 a0 6 6 ∧ okR E h1 (fA h1 a0 6) 0 ((gA h1 (fA h1 a0 5) x1) + x2) ∧ Q (gA h1 (fA h1 a0 6) ((gA h1 (fA h1 a0 5) x1) + x2)) h1))) ∧ (¬ x2 < r2 → Q ((-1)) h1)))
set_option maxRecDepth 100000 in
set_option maxHeartbeats 4000000 in
theorem zsX6_stepOf_0 {E : Wd} {X : Mx} {d : Nat} {Q : Int32 → Hp → Prop} (C : zz_C E X YX6_stepOf (d + 1) 0 0 (fun r h' => ∃ x : Int32, r = some (.int x) ∧ Q x h')) (a0 : Nat) (x1 : Int32) (x2 : Int32) (h : Hp) (v : vcX6_stepOf_0 E d a0 x1 x2 h Q) : GG E X 4 0 0 0 [some (.ref a0), some (.int x1), some (.int x2), none] [] h := by
  refine zg_iload_n (q := 1) C dX6_stepOf_0 rfl rfl ?_
  refine zg_if_lt (t := 13) (q := 4) C dX6_stepOf_1 (by decide) rfl (fun c => ?_) (fun c => ?_)
  · have v := v.1 c
    refine zg_iconst (v := (-1)) (q := 14) C dX6_stepOf_13 (by decide) rfl ?_
    exact zg_iret C rfl dX6_stepOf_14 ⟨Nat.le_refl _, Nat.le_refl _⟩ ⟨_, rfl, v⟩
  · have v := v.2 c
    refine zg_iload_n (q := 5) C dX6_stepOf_4 rfl rfl ?_
    refine zg_aload_n (q := 6) C dX6_stepOf_5 rfl rfl ?_
    refine zg_iload_n (q := 7) C dX6_stepOf_6 rfl rfl ?_
    refine zg_cV1I (q := 10) C mX6_stepsOf vX6_stepsOf lmX6_166 rfl (bX6).1 v.1 (Nat.le_of_ble_eq_true rfl) ⟨Nat.le_refl _, Nat.le_refl _⟩ dX6_stepOf_7 rfl v.2 (fun r2 h1 v => ?_)
    refine zg_icmp_lt (t := 15) (q := 13) C dX6_stepOf_10 (by decide) rfl (fun c => ?_) (fun c => ?_)
    · have v := v.1 c
      refine zg_aload_n (q := 16) C dX6_stepOf_15 rfl rfl ?_
      refine zg_get (j := 5) (q := 19) C bX6 (by decide) lkX6_27 dX6_stepOf_16 rfl (okA.get v.1) ?_
      have v := v.2
      refine zg_iload_n (q := 20) C dX6_stepOf_19 rfl rfl ?_
      refine zg_iald (q := 21) C dX6_stepOf_20 rfl v.1 ?_
      have v := v.2
      refine zg_iload_n (q := 22) C dX6_stepOf_21 rfl rfl ?_
      refine zg_iadd (q := 23) C dX6_stepOf_22 rfl ?_
      refine zg_istore_n (q := 24) C dX6_stepOf_23 (by decide) rfl ?_
      refine zg_iload_n (q := 25) C dX6_stepOf_24 rfl rfl ?_
      refine zg_if_lt (t := 46) (q := 28) C dX6_stepOf_25 (by decide) rfl (fun c => ?_) (fun c => ?_)
      · have v := v.1 c
        refine zg_iconst (v := (-1)) (q := 47) C dX6_stepOf_46 (by decide) rfl ?_
        exact zg_iret C rfl dX6_stepOf_47 ⟨Nat.le_refl _, Nat.le_refl _⟩ ⟨_, rfl, v⟩
      · have v := v.2 c
        refine zg_iload_n (q := 29) C dX6_stepOf_28 rfl rfl ?_
        refine zg_aload_n (q := 30) C dX6_stepOf_29 rfl rfl ?_
        refine zg_get (j := 6) (q := 33) C bX6 (by decide) lkX6_30 dX6_stepOf_30 rfl (okA.get v.1) ?_
        have v := v.2
        refine zg_alen (t := 0) (q := 34) C (by decide) dX6_stepOf_33 rfl v.1 ?_
        have v := v.2
        refine zg_icmp_ge (t := 46) (q := 37) C dX6_stepOf_34 (by decide) rfl (fun c => ?_) (fun c => ?_)
        · have v := v.1 c
          refine zg_iconst (v := (-1)) (q := 47) C dX6_stepOf_46 (by decide) rfl ?_
          exact zg_iret C rfl dX6_stepOf_47 ⟨Nat.le_refl _, Nat.le_refl _⟩ ⟨_, rfl, v⟩
        · have v := v.2 c
          refine zg_aload_n (q := 38) C dX6_stepOf_37 rfl rfl ?_
          refine zg_get (j := 6) (q := 41) C bX6 (by decide) lkX6_30 dX6_stepOf_38 rfl (okA.get v.1) ?_
          have v := v.2
          refine zg_iload_n (q := 42) C dX6_stepOf_41 rfl rfl ?_
          refine zg_iald (q := 43) C dX6_stepOf_42 rfl v.1 ?_
          have v := v.2
          refine zg_goto (t := 47) C dX6_stepOf_43 (by decide) ?_
          exact zg_iret C rfl dX6_stepOf_47 ⟨Nat.le_refl _, Nat.le_refl _⟩ ⟨_, rfl, v⟩
    · have v := v.2 c
      refine zg_iconst (v := (-1)) (q := 14) C dX6_stepOf_13 (by decide) rfl ?_
      exact zg_iret C rfl dX6_stepOf_14 ⟨Nat.le_refl _, Nat.le_refl _⟩ ⟨_, rfl, v⟩
theorem rnX6_stepOf {E : Wd} {d : Nat} {a0 : Nat} {x1 : Int32} {x2 : Int32} {h : Hp} {Q : Int32 → Hp → Prop} (k : vcX6_stepOf_0 E d a0 x1 x2 h Q) : OkI E YX6_stepOf (d + 1) [.ref a0, .int x1, .int x2] h Q :=
  zz_body2 (r := 1) mX6_stepOf (zc_a (zc_i (zc_i zc_n))) (Nat.le_of_ble_eq_true rfl) (fun X C => zsX6_stepOf_0 C a0 x1 x2 h k)
def vcX6_captures_0 (E : Wd) (d : Nat) (a0 : Nat) (x1 : Int32) (x2 : Int32) (h : Hp) (Q : Int32 → Hp → Prop) : Prop :=
  isO h a0 6 ∧ OkI E YX6_isIndex d [.ref a0, .int x1] h (fun r2 h1 => (r2 = (0 : Int32) → mB 0 ∧ Q 0 h1) ∧ (¬ r2 = (0 : Int32) → isO h1 a0 6 ∧ OkI E YX6_isIndex d [.ref a0, .int x2] h1 (fun r4 h3 => (r4 = (0 : Int32) → mB 0 ∧ Q 0 h3) ∧ (¬ r4 = (0 : Int32) → okA h3 a0 6 1 ∧ okR E h3 (fA h3 a0 1) 0 x2 ∧ okA h3 a0 6 1 ∧ okR E h3 (fA h3 a0 1) 0 x1 ∧ ((gA h3 (fA h3 a0 1) x2) ≤ (gA h3 (fA h3 a0 1) x1) → mB 0 ∧ Q 0 h3) ∧ (¬ (gA h3 (fA h3 a0 1) x2) ≤ (gA h3 (fA h3 a0 1) x1) → mB 1 ∧ Q 1 h3)))))
set_option maxRecDepth 100000 in
set_option maxHeartbeats 4000000 in
theorem zsX6_captures_0 {E : Wd} {X : Mx} {d : Nat} {Q : Int32 → Hp → Prop} (C : zz_C E X YX6_captures (d + 1) 0 0 (fun r h' => ∃ x : Int32, r = some (.int x) ∧ Q x h')) (a0 : Nat) (x1 : Int32) (x2 : Int32) (h : Hp) (v : vcX6_captures_0 E d a0 x1 x2 h Q) : GG E X 3 0 0 0 [some (.ref a0), some (.int x1), some (.int x2)] [] h := by
  refine zg_aload_n (q := 1) C dX6_captures_0 rfl rfl ?_
  refine zg_iload_n (q := 2) C dX6_captures_1 rfl rfl ?_
  refine zg_cV1I (q := 5) C mX6_isIndex vX6_isIndex lmX6_157 rfl (bX6).1 v.1 (Nat.le_of_ble_eq_true rfl) ⟨Nat.le_refl _, Nat.le_refl _⟩ dX6_captures_2 rfl v.2 (fun r2 h1 v => ?_)
  refine zg_if_eq (t := 35) (q := 8) C dX6_captures_5 (by decide) rfl (fun c => ?_) (fun c => ?_)
  · have v := v.1 c
    refine zg_iconst (v := 0) (q := 36) C dX6_captures_35 (by decide) rfl ?_
    exact zg_zret C rfl dX6_captures_36 ⟨Nat.le_refl _, Nat.le_refl _⟩ v.1 ⟨_, rfl, v.2⟩
  · have v := v.2 c
    refine zg_aload_n (q := 9) C dX6_captures_8 rfl rfl ?_
    refine zg_iload_n (q := 10) C dX6_captures_9 rfl rfl ?_
    refine zg_cV1I (q := 13) C mX6_isIndex vX6_isIndex lmX6_157 rfl (bX6).1 v.1 (Nat.le_of_ble_eq_true rfl) ⟨Nat.le_refl _, Nat.le_refl _⟩ dX6_captures_10 rfl v.2 (fun r4 h3 v => ?_)
    refine zg_if_eq (t := 35) (q := 16) C dX6_captures_13 (by decide) rfl (fun c => ?_) (fun c => ?_)
    · have v := v.1 c
      refine zg_iconst (v := 0) (q := 36) C dX6_captures_35 (by decide) rfl ?_
      exact zg_zret C rfl dX6_captures_36 ⟨Nat.le_refl _, Nat.le_refl _⟩ v.1 ⟨_, rfl, v.2⟩
    · have v := v.2 c
      refine zg_aload_n (q := 17) C dX6_captures_16 rfl rfl ?_
      refine zg_get (j := 1) (q := 20) C bX6 (by decide) lkX6_15 dX6_captures_17 rfl (okA.get v.1) ?_
      have v := v.2
      refine zg_iload_n (q := 21) C dX6_captures_20 rfl rfl ?_
      refine zg_iald (q := 22) C dX6_captures_21 rfl v.1 ?_
      have v := v.2
      refine zg_aload_n (q := 23) C dX6_captures_22 rfl rfl ?_
      refine zg_get (j := 1) (q := 26) C bX6 (by decide) lkX6_15 dX6_captures_23 rfl (okA.get v.1) ?_
      have v := v.2
      refine zg_iload_n (q := 27) C dX6_captures_26 rfl rfl ?_
      refine zg_iald (q := 28) C dX6_captures_27 rfl v.1 ?_
      have v := v.2
      refine zg_icmp_le (t := 35) (q := 31) C dX6_captures_28 (by decide) rfl (fun c => ?_) (fun c => ?_)
      · have v := v.1 c
        refine zg_iconst (v := 0) (q := 36) C dX6_captures_35 (by decide) rfl ?_
        exact zg_zret C rfl dX6_captures_36 ⟨Nat.le_refl _, Nat.le_refl _⟩ v.1 ⟨_, rfl, v.2⟩
      · have v := v.2 c
        refine zg_iconst (v := 1) (q := 32) C dX6_captures_31 (by decide) rfl ?_
        refine zg_goto (t := 36) C dX6_captures_32 (by decide) ?_
        exact zg_zret C rfl dX6_captures_36 ⟨Nat.le_refl _, Nat.le_refl _⟩ v.1 ⟨_, rfl, v.2⟩
theorem rnX6_captures {E : Wd} {d : Nat} {a0 : Nat} {x1 : Int32} {x2 : Int32} {h : Hp} {Q : Int32 → Hp → Prop} (k : vcX6_captures_0 E d a0 x1 x2 h Q) : OkI E YX6_captures (d + 1) [.ref a0, .int x1, .int x2] h Q :=
  zz_body2 (r := 0) mX6_captures (zc_a (zc_i (zc_i zc_n))) (Nat.le_of_ble_eq_true rfl) (fun X C => zsX6_captures_0 C a0 x1 x2 h k)
def vcX6_bestStep_0 (E : Wd) (d : Nat) (K14 : Nat → Int32 → Int32 → Int32 → Int32 → Int32 → Hp → Prop) (a0 : Nat) (x1 : Int32) (h : Hp) (Q : Int32 → Hp → Prop) : Prop :=
  isO h a0 6 ∧ OkI E YX6_valueOf d [.ref a0, .int x1] h (fun r2 h1 => K14 a0 x1 r2 ((-1)) 0 0 h1)
def vcX6_bestStep_72 (E : Wd) (d : Nat) (K14 : Nat → Int32 → Int32 → Int32 → Int32 → Int32 → Hp → Prop) (a0 : Nat) (x1 : Int32) (x2 : Int32) (x5 : Int32) (x6 : Int32) (h : Hp) (Q : Int32 → Hp → Prop) : Prop :=
  isO h a0 6 ∧ OkI E YX6_toEndOf d [.ref a0, .int x6] h (fun r2 h1 => K14 a0 x1 x2 x5 r2 (x5 + 1) h1)
def vcX6_bestStep_14 (E : Wd) (d : Nat) (K14 : Nat → Int32 → Int32 → Int32 → Int32 → Int32 → Hp → Prop) (a0 : Nat) (x1 : Int32) (x2 : Int32) (x3 : Int32) (x4 : Int32) (x5 : Int32) (h : Hp) (Q : Int32 → Hp → Prop) : Prop :=
  isO h a0 6 ∧ OkI E YX6_stepsOf d [.ref a0, .int x1] h (fun r2 h1 => (r2 ≤ x5 → Q x3 h1) ∧ (¬ r2 ≤ x5 → isO h1 a0 6 ∧ OkI E YX6_stepOf d [.ref a0, .int x1, .int x5] h1 (fun r4 h3 => isO h3 a0 6 ∧ OkI E YX6_valueOf d [.ref a0, .int r4] h3 (fun r6 h5 => (r6 = (-x2) → isO h5 a0 6 ∧ OkI E YX6_toEndOf d [.ref a0, .int r4] h5 (fun r8 h7 => (x3 < (0 : Int32) → vcX6_bestStep_72 E d K14 a0 x1 x2 x5 r4 h7 Q) ∧ (¬ x3 < (0 : Int32) → ((0 : Int32) < (x2 * (x4 - r8)) → vcX6_bestStep_72 E d K14 a0 x1 x2 x5 r4 h7 Q) ∧ (¬ (0 : Int32) < (x2 * (x4 - r8)) → K14 a0 x1 x2 x3 x4 (x5 + 1) h7)))) ∧ (¬ r6 = (-x2) → K14 a0 x1 x2 x3 x4 (x5 + 1) h5)))))
def zkX6_bestStep_14 (E : Wd) (X : Mx) : Nat → Int32 → Int32 → Int32 → Int32 → Int32 → Hp → Prop := fun a0 x1 x2 x3 x4 x5 h => GG E X 8 0 0 14 [some (.ref a0), some (.int x1), some (.int x2), some (.int x3), some (.int x4), some (.int x5), none, none] [] h
set_option maxRecDepth 100000 in
set_option maxHeartbeats 4000000 in
theorem zsX6_bestStep_0 {E : Wd} {X : Mx} {d : Nat} {Q : Int32 → Hp → Prop} (C : zz_C E X YX6_bestStep (d + 1) 0 0 (fun r h' => ∃ x : Int32, r = some (.int x) ∧ Q x h')) (a0 : Nat) (x1 : Int32) (h : Hp) (v : vcX6_bestStep_0 E d (zkX6_bestStep_14 E X) a0 x1 h Q) : GG E X 8 0 0 0 [some (.ref a0), some (.int x1), none, none, none, none, none, none] [] h := by
  refine zg_aload_n (q := 1) C dX6_bestStep_0 rfl rfl ?_
  refine zg_iload_n (q := 2) C dX6_bestStep_1 rfl rfl ?_
  refine zg_cV1I (q := 5) C mX6_valueOf vX6_valueOf lmX6_144 rfl (bX6).1 v.1 (Nat.le_of_ble_eq_true rfl) ⟨Nat.le_refl _, Nat.le_refl _⟩ dX6_bestStep_2 rfl v.2 (fun r2 h1 v => ?_)
  refine zg_istore_n (q := 6) C dX6_bestStep_5 (by decide) rfl ?_
  refine zg_iconst (v := (-1)) (q := 7) C dX6_bestStep_6 (by decide) rfl ?_
  refine zg_istore_n (q := 8) C dX6_bestStep_7 (by decide) rfl ?_
  refine zg_iconst (v := 0) (q := 9) C dX6_bestStep_8 (by decide) rfl ?_
  refine zg_istore (q := 11) C dX6_bestStep_9 (by decide) rfl ?_
  refine zg_iconst (v := 0) (q := 12) C dX6_bestStep_11 (by decide) rfl ?_
  refine zg_istore (q := 14) C dX6_bestStep_12 (by decide) rfl ?_
  exact zg_mask [true, true, true, true, true, true, false, false] v
set_option maxRecDepth 100000 in
set_option maxHeartbeats 4000000 in
theorem zsX6_bestStep_72 {E : Wd} {X : Mx} {d : Nat} {Q : Int32 → Hp → Prop} (C : zz_C E X YX6_bestStep (d + 1) 0 0 (fun r h' => ∃ x : Int32, r = some (.int x) ∧ Q x h')) (a0 : Nat) (x1 : Int32) (x2 : Int32) (x5 : Int32) (x6 : Int32) (h : Hp) (v : vcX6_bestStep_72 E d (zkX6_bestStep_14 E X) a0 x1 x2 x5 x6 h Q) : GG E X 8 0 0 72 [some (.ref a0), some (.int x1), some (.int x2), none, none, some (.int x5), some (.int x6), none] [] h := by
  refine zg_iload (q := 74) C dX6_bestStep_72 rfl rfl ?_
  refine zg_istore_n (q := 75) C dX6_bestStep_74 (by decide) rfl ?_
  refine zg_aload_n (q := 76) C dX6_bestStep_75 rfl rfl ?_
  refine zg_iload (q := 78) C dX6_bestStep_76 rfl rfl ?_
  refine zg_cV1I (q := 81) C mX6_toEndOf vX6_toEndOf lmX6_141 rfl (bX6).1 v.1 (Nat.le_of_ble_eq_true rfl) ⟨Nat.le_refl _, Nat.le_refl _⟩ dX6_bestStep_78 rfl v.2 (fun r2 h1 v => ?_)
  refine zg_istore (q := 83) C dX6_bestStep_81 (by decide) rfl ?_
  refine zg_iinc (v := 1) (q := 86) C dX6_bestStep_83 rfl (by decide) (by decide) rfl ?_
  refine zg_goto (t := 14) C dX6_bestStep_86 (by decide) ?_
  exact zg_mask [true, true, true, true, true, true, false, false] v
set_option maxRecDepth 100000 in
set_option maxHeartbeats 4000000 in
theorem zsX6_bestStep_14 {E : Wd} {X : Mx} {d : Nat} {Q : Int32 → Hp → Prop} (C : zz_C E X YX6_bestStep (d + 1) 0 0 (fun r h' => ∃ x : Int32, r = some (.int x) ∧ Q x h')) (a0 : Nat) (x1 : Int32) (x2 : Int32) (x3 : Int32) (x4 : Int32) (x5 : Int32) (h : Hp) (v : vcX6_bestStep_14 E d (zkX6_bestStep_14 E X) a0 x1 x2 x3 x4 x5 h Q) : GG E X 8 0 0 14 [some (.ref a0), some (.int x1), some (.int x2), some (.int x3), some (.int x4), some (.int x5), none, none] [] h := by
  refine zg_iload (q := 16) C dX6_bestStep_14 rfl rfl ?_
  refine zg_aload_n (q := 17) C dX6_bestStep_16 rfl rfl ?_
  refine zg_iload_n (q := 18) C dX6_bestStep_17 rfl rfl ?_
  refine zg_cV1I (q := 21) C mX6_stepsOf vX6_stepsOf lmX6_166 rfl (bX6).1 v.1 (Nat.le_of_ble_eq_true rfl) ⟨Nat.le_refl _, Nat.le_refl _⟩ dX6_bestStep_18 rfl v.2 (fun r2 h1 v => ?_)
  refine zg_icmp_ge (t := 89) (q := 24) C dX6_bestStep_21 (by decide) rfl (fun c => ?_) (fun c => ?_)
  · have v := v.1 c
    refine zg_iload_n (q := 90) C dX6_bestStep_89 rfl rfl ?_
    exact zg_iret C rfl dX6_bestStep_90 ⟨Nat.le_refl _, Nat.le_refl _⟩ ⟨_, rfl, v⟩
  · have v := v.2 c
    refine zg_aload_n (q := 25) C dX6_bestStep_24 rfl rfl ?_
    refine zg_iload_n (q := 26) C dX6_bestStep_25 rfl rfl ?_
    refine zg_iload (q := 28) C dX6_bestStep_26 rfl rfl ?_
    refine zg_cV2I (q := 31) C mX6_stepOf vX6_stepOf lmX6_169 rfl (bX6).1 v.1 (Nat.le_of_ble_eq_true rfl) ⟨Nat.le_refl _, Nat.le_refl _⟩ dX6_bestStep_28 rfl v.2 (fun r4 h3 v => ?_)
    refine zg_istore (q := 33) C dX6_bestStep_31 (by decide) rfl ?_
    refine zg_aload_n (q := 34) C dX6_bestStep_33 rfl rfl ?_
    refine zg_iload (q := 36) C dX6_bestStep_34 rfl rfl ?_
    refine zg_cV1I (q := 39) C mX6_valueOf vX6_valueOf lmX6_144 rfl (bX6).1 v.1 (Nat.le_of_ble_eq_true rfl) ⟨Nat.le_refl _, Nat.le_refl _⟩ dX6_bestStep_36 rfl v.2 (fun r6 h5 v => ?_)
    refine zg_iload_n (q := 40) C dX6_bestStep_39 rfl rfl ?_
    refine zg_ineg (q := 41) C dX6_bestStep_40 rfl ?_
    refine zg_icmp_eq (t := 47) (q := 44) C dX6_bestStep_41 (by decide) rfl (fun c => ?_) (fun c => ?_)
    · have v := v.1 c
      refine zg_iload_n (q := 48) C dX6_bestStep_47 rfl rfl ?_
      refine zg_iload (q := 50) C dX6_bestStep_48 rfl rfl ?_
      refine zg_aload_n (q := 51) C dX6_bestStep_50 rfl rfl ?_
      refine zg_iload (q := 53) C dX6_bestStep_51 rfl rfl ?_
      refine zg_cV1I (q := 56) C mX6_toEndOf vX6_toEndOf lmX6_141 rfl (bX6).1 v.1 (Nat.le_of_ble_eq_true rfl) ⟨Nat.le_refl _, Nat.le_refl _⟩ dX6_bestStep_53 rfl v.2 (fun r8 h7 v => ?_)
      refine zg_isub (q := 57) C dX6_bestStep_56 rfl ?_
      refine zg_imul (q := 58) C dX6_bestStep_57 rfl ?_
      refine zg_istore (q := 60) C dX6_bestStep_58 (by decide) rfl ?_
      refine zg_iload_n (q := 61) C dX6_bestStep_60 rfl rfl ?_
      refine zg_if_lt (t := 72) (q := 64) C dX6_bestStep_61 (by decide) rfl (fun c => ?_) (fun c => ?_)
      · have v := v.1 c
        exact zg_mask [true, true, true, false, false, true, true, false] (zsX6_bestStep_72 C _ _ _ _ _ _ v)
      · have v := v.2 c
        refine zg_iload (q := 66) C dX6_bestStep_64 rfl rfl ?_
        refine zg_if_gt (t := 72) (q := 69) C dX6_bestStep_66 (by decide) rfl (fun c => ?_) (fun c => ?_)
        · have v := v.1 c
          exact zg_mask [true, true, true, false, false, true, true, false] (zsX6_bestStep_72 C _ _ _ _ _ _ v)
        · have v := v.2 c
          refine zg_goto (t := 83) C dX6_bestStep_69 (by decide) ?_
          refine zg_iinc (v := 1) (q := 86) C dX6_bestStep_83 rfl (by decide) (by decide) rfl ?_
          refine zg_goto (t := 14) C dX6_bestStep_86 (by decide) ?_
          exact zg_mask [true, true, true, true, true, true, false, false] v
    · have v := v.2 c
      refine zg_goto (t := 83) C dX6_bestStep_44 (by decide) ?_
      refine zg_iinc (v := 1) (q := 86) C dX6_bestStep_83 rfl (by decide) (by decide) rfl ?_
      refine zg_goto (t := 14) C dX6_bestStep_86 (by decide) ?_
      exact zg_mask [true, true, true, true, true, true, false, false] v
theorem rnX6_bestStep {E : Wd} {d : Nat} {a0 : Nat} {x1 : Int32} {h : Hp} {Q : Int32 → Hp → Prop} (k : ∀ (K14 : Nat → Int32 → Int32 → Int32 → Int32 → Int32 → Hp → Prop),(∀ (a0 : Nat) (x1 : Int32) (x2 : Int32) (x3 : Int32) (x4 : Int32) (x5 : Int32) h, vcX6_bestStep_14 E d K14 a0 x1 x2 x3 x4 x5 h Q → K14 a0 x1 x2 x3 x4 x5 h) → vcX6_bestStep_0 E d K14 a0 x1 h Q) : OkI E YX6_bestStep (d + 1) [.ref a0, .int x1] h Q :=
  zz_body2 (r := 6) mX6_bestStep (zc_a (zc_i zc_n)) (Nat.le_of_ble_eq_true rfl) (fun X C => zsX6_bestStep_0 C a0 x1 h (k (zkX6_bestStep_14 E X) (fun a0 x1 x2 x3 x4 x5 h v => zsX6_bestStep_14 C a0 x1 x2 x3 x4 x5 h v)))
def vcX6_followBest_0 (E : Wd) (d : Nat) (K9 : Nat → Int32 → Hp → Prop) (a0 : Nat) (x1 : Int32) (h : Hp) (Q : Int32 → Hp → Prop) : Prop :=
  okA h a0 6 7 ∧ okR E h (fA h a0 7) 0 0 ∧ ∀ h1, h1 = sA h (fA h a0 7) 0 x1 → K9 a0 0 h1
def vcX6_followBest_9 (E : Wd) (d : Nat) (K9 : Nat → Int32 → Hp → Prop) (a0 : Nat) (x2 : Int32) (h : Hp) (Q : Int32 → Hp → Prop) : Prop :=
  ((60 : Int32) ≤ x2 → Q 60 h) ∧ (¬ (60 : Int32) ≤ x2 → okA h a0 6 7 ∧ okR E h (fA h a0 7) 0 x2 ∧ isO h a0 6 ∧ OkI E YX6_bestStep d [.ref a0, .int (gA h (fA h a0 7) x2)] h (fun r2 h1 => ((0 : Int32) ≤ r2 → okA h1 a0 6 7 ∧ okR E h1 (fA h1 a0 7) 0 x2 ∧ isO h1 a0 6 ∧ OkI E YX6_stepOf d [.ref a0, .int (gA h1 (fA h1 a0 7) x2), .int r2] h1 (fun r4 h3 => isO h3 a0 6 ∧ OkI E YX6_isFollowed d [.ref a0, .int r4, .int x2] h3 (fun r6 h5 => (r6 = (0 : Int32) → okA h5 a0 6 7 ∧ okR E h5 (fA h5 a0 7) 0 (x2 + (1 : Int32)) ∧ ∀ h7, h7 = sA h5 (fA h5 a0 7) (x2 + (1 : Int32)) r4 → K9 a0 (x2 + 1) h7) ∧ (¬ r6 = (0 : Int32) → Q x2 h5)))) ∧ (¬ (0 : Int32) ≤ r2 → Q x2 h1)))
def zkX6_followBest_9 (E : Wd) (X : Mx) : Nat → Int32 → Hp → Prop := fun a0 x2 h => GG E X 5 0 0 9 [some (.ref a0), none, some (.int x2), none, none] [] h
set_option maxRecDepth 100000 in
set_option maxHeartbeats 4000000 in
theorem zsX6_followBest_0 {E : Wd} {X : Mx} {d : Nat} {Q : Int32 → Hp → Prop} (C : zz_C E X YX6_followBest (d + 1) 0 0 (fun r h' => ∃ x : Int32, r = some (.int x) ∧ Q x h')) (a0 : Nat) (x1 : Int32) (h : Hp) (v : vcX6_followBest_0 E d (zkX6_followBest_9 E X) a0 x1 h Q) : GG E X 5 0 0 0 [some (.ref a0), some (.int x1), none, none, none] [] h := by
  refine zg_aload_n (q := 1) C dX6_followBest_0 rfl rfl ?_
  refine zg_get (j := 7) (q := 4) C bX6 (by decide) lkX6_33 dX6_followBest_1 rfl (okA.get v.1) ?_
  have v := v.2
  refine zg_iconst (v := 0) (q := 5) C dX6_followBest_4 (by decide) rfl ?_
  refine zg_iload_n (q := 6) C dX6_followBest_5 rfl rfl ?_
  refine zg_iast (q := 7) C dX6_followBest_6 rfl v.1 ?_
  have v := v.2 _ rfl
  refine zg_iconst (v := 0) (q := 8) C dX6_followBest_7 (by decide) rfl ?_
  refine zg_istore_n (q := 9) C dX6_followBest_8 (by decide) rfl ?_
  exact zg_mask [true, false, true, false, false] v
set_option maxRecDepth 100000 in
set_option maxHeartbeats 4000000 in
theorem zsX6_followBest_9 {E : Wd} {X : Mx} {d : Nat} {Q : Int32 → Hp → Prop} (C : zz_C E X YX6_followBest (d + 1) 0 0 (fun r h' => ∃ x : Int32, r = some (.int x) ∧ Q x h')) (a0 : Nat) (x2 : Int32) (h : Hp) (v : vcX6_followBest_9 E d (zkX6_followBest_9 E X) a0 x2 h Q) : GG E X 5 0 0 9 [some (.ref a0), none, some (.int x2), none, none] [] h := by
  refine zg_iload_n (q := 10) C dX6_followBest_9 rfl rfl ?_
  refine zg_bipush (v := 60) (q := 12) C dX6_followBest_10 (by decide) rfl ?_
  refine zg_icmp_ge (t := 73) (q := 15) C dX6_followBest_12 (by decide) rfl (fun c => ?_) (fun c => ?_)
  · have v := v.1 c
    refine zg_bipush (v := 60) (q := 75) C dX6_followBest_73 (by decide) rfl ?_
    exact zg_iret C rfl dX6_followBest_75 ⟨Nat.le_refl _, Nat.le_refl _⟩ ⟨_, rfl, v⟩
  · have v := v.2 c
    refine zg_aload_n (q := 16) C dX6_followBest_15 rfl rfl ?_
    refine zg_aload_n (q := 17) C dX6_followBest_16 rfl rfl ?_
    refine zg_get (j := 7) (q := 20) C bX6 (by decide) lkX6_33 dX6_followBest_17 rfl (okA.get v.1) ?_
    have v := v.2
    refine zg_iload_n (q := 21) C dX6_followBest_20 rfl rfl ?_
    refine zg_iald (q := 22) C dX6_followBest_21 rfl v.1 ?_
    have v := v.2
    refine zg_cV1I (q := 25) C mX6_bestStep vX6_bestStep lmX6_172 rfl (bX6).1 v.1 (Nat.le_of_ble_eq_true rfl) ⟨Nat.le_refl _, Nat.le_refl _⟩ dX6_followBest_22 rfl v.2 (fun r2 h1 v => ?_)
    refine zg_istore_n (q := 26) C dX6_followBest_25 (by decide) rfl ?_
    refine zg_iload_n (q := 27) C dX6_followBest_26 rfl rfl ?_
    refine zg_if_ge (t := 32) (q := 30) C dX6_followBest_27 (by decide) rfl (fun c => ?_) (fun c => ?_)
    · have v := v.1 c
      refine zg_aload_n (q := 33) C dX6_followBest_32 rfl rfl ?_
      refine zg_aload_n (q := 34) C dX6_followBest_33 rfl rfl ?_
      refine zg_get (j := 7) (q := 37) C bX6 (by decide) lkX6_33 dX6_followBest_34 rfl (okA.get v.1) ?_
      have v := v.2
      refine zg_iload_n (q := 38) C dX6_followBest_37 rfl rfl ?_
      refine zg_iald (q := 39) C dX6_followBest_38 rfl v.1 ?_
      have v := v.2
      refine zg_iload_n (q := 40) C dX6_followBest_39 rfl rfl ?_
      refine zg_cV2I (q := 43) C mX6_stepOf vX6_stepOf lmX6_169 rfl (bX6).1 v.1 (Nat.le_of_ble_eq_true rfl) ⟨Nat.le_refl _, Nat.le_refl _⟩ dX6_followBest_40 rfl v.2 (fun r4 h3 v => ?_)
      refine zg_istore (q := 45) C dX6_followBest_43 (by decide) rfl ?_
      refine zg_aload_n (q := 46) C dX6_followBest_45 rfl rfl ?_
      refine zg_iload (q := 48) C dX6_followBest_46 rfl rfl ?_
      refine zg_iload_n (q := 49) C dX6_followBest_48 rfl rfl ?_
      refine zg_cV2I (q := 52) C mX6_isFollowed vX6_isFollowed lmX6_175 rfl (bX6).1 v.1 (Nat.le_of_ble_eq_true rfl) ⟨Nat.le_refl _, Nat.le_refl _⟩ dX6_followBest_49 rfl v.2 (fun r6 h5 v => ?_)
      refine zg_if_eq (t := 57) (q := 55) C dX6_followBest_52 (by decide) rfl (fun c => ?_) (fun c => ?_)
      · have v := v.1 c
        refine zg_aload_n (q := 58) C dX6_followBest_57 rfl rfl ?_
        refine zg_get (j := 7) (q := 61) C bX6 (by decide) lkX6_33 dX6_followBest_58 rfl (okA.get v.1) ?_
        have v := v.2
        refine zg_iload_n (q := 62) C dX6_followBest_61 rfl rfl ?_
        refine zg_iconst (v := 1) (q := 63) C dX6_followBest_62 (by decide) rfl ?_
        refine zg_iadd (q := 64) C dX6_followBest_63 rfl ?_
        refine zg_iload (q := 66) C dX6_followBest_64 rfl rfl ?_
        refine zg_iast (q := 67) C dX6_followBest_66 rfl v.1 ?_
        have v := v.2 _ rfl
        refine zg_iinc (v := 1) (q := 70) C dX6_followBest_67 rfl (by decide) (by decide) rfl ?_
        refine zg_goto (t := 9) C dX6_followBest_70 (by decide) ?_
        exact zg_mask [true, false, true, false, false] v
      · have v := v.2 c
        refine zg_iload_n (q := 56) C dX6_followBest_55 rfl rfl ?_
        exact zg_iret C rfl dX6_followBest_56 ⟨Nat.le_refl _, Nat.le_refl _⟩ ⟨_, rfl, v⟩
    · have v := v.2 c
      refine zg_iload_n (q := 31) C dX6_followBest_30 rfl rfl ?_
      exact zg_iret C rfl dX6_followBest_31 ⟨Nat.le_refl _, Nat.le_refl _⟩ ⟨_, rfl, v⟩
theorem rnX6_followBest {E : Wd} {d : Nat} {a0 : Nat} {x1 : Int32} {h : Hp} {Q : Int32 → Hp → Prop} (k : ∀ (K9 : Nat → Int32 → Hp → Prop),(∀ (a0 : Nat) (x2 : Int32) h, vcX6_followBest_9 E d K9 a0 x2 h Q → K9 a0 x2 h) → vcX6_followBest_0 E d K9 a0 x1 h Q) : OkI E YX6_followBest (d + 1) [.ref a0, .int x1] h Q :=
  zz_body2 (r := 3) mX6_followBest (zc_a (zc_i zc_n)) (Nat.le_of_ble_eq_true rfl) (fun X C => zsX6_followBest_0 C a0 x1 h (k (zkX6_followBest_9 E X) (fun a0 x2 h v => zsX6_followBest_9 C a0 x2 h v)))
def vcX6_isFollowed_0 (E : Wd) (d : Nat) (K2 : Nat → Int32 → Int32 → Int32 → Hp → Prop) (a0 : Nat) (x1 : Int32) (x2 : Int32) (h : Hp) (Q : Int32 → Hp → Prop) : Prop :=
  K2 a0 x1 x2 0 h
def vcX6_isFollowed_2 (E : Wd) (d : Nat) (K2 : Nat → Int32 → Int32 → Int32 → Hp → Prop) (a0 : Nat) (x1 : Int32) (x2 : Int32) (x3 : Int32) (h : Hp) (Q : Int32 → Hp → Prop) : Prop :=
  (x2 < x3 → mB 0 ∧ Q 0 h) ∧ (¬ x2 < x3 → okA h a0 6 7 ∧ okL E h (fA h a0 7) 0 ∧ ((lA h (fA h a0 7)) ≤ x3 → mB 0 ∧ Q 0 h) ∧ (¬ (lA h (fA h a0 7)) ≤ x3 → okA h a0 6 7 ∧ okR E h (fA h a0 7) 0 x3 ∧ (¬ (gA h (fA h a0 7) x3) = x1 → K2 a0 x1 x2 (x3 + 1) h) ∧ ((gA h (fA h a0 7) x3) = x1 → mB 1 ∧ Q 1 h)))
def zkX6_isFollowed_2 (E : Wd) (X : Mx) : Nat → Int32 → Int32 → Int32 → Hp → Prop := fun a0 x1 x2 x3 h => GG E X 4 0 0 2 [some (.ref a0), some (.int x1), some (.int x2), some (.int x3)] [] h
set_option maxRecDepth 100000 in
set_option maxHeartbeats 4000000 in
theorem zsX6_isFollowed_0 {E : Wd} {X : Mx} {d : Nat} {Q : Int32 → Hp → Prop} (C : zz_C E X YX6_isFollowed d 0 0 (fun r h' => ∃ x : Int32, r = some (.int x) ∧ Q x h')) (a0 : Nat) (x1 : Int32) (x2 : Int32) (h : Hp) (v : vcX6_isFollowed_0 E d (zkX6_isFollowed_2 E X) a0 x1 x2 h Q) : GG E X 4 0 0 0 [some (.ref a0), some (.int x1), some (.int x2), none] [] h := by
  refine zg_iconst (v := 0) (q := 1) C dX6_isFollowed_0 (by decide) rfl ?_
  refine zg_istore_n (q := 2) C dX6_isFollowed_1 (by decide) rfl ?_
  exact zg_mask [true, true, true, true] v
set_option maxRecDepth 100000 in
set_option maxHeartbeats 4000000 in
theorem zsX6_isFollowed_2 {E : Wd} {X : Mx} {d : Nat} {Q : Int32 → Hp → Prop} (C : zz_C E X YX6_isFollowed d 0 0 (fun r h' => ∃ x : Int32, r = some (.int x) ∧ Q x h')) (a0 : Nat) (x1 : Int32) (x2 : Int32) (x3 : Int32) (h : Hp) (v : vcX6_isFollowed_2 E d (zkX6_isFollowed_2 E X) a0 x1 x2 x3 h Q) : GG E X 4 0 0 2 [some (.ref a0), some (.int x1), some (.int x2), some (.int x3)] [] h := by
  refine zg_iload_n (q := 3) C dX6_isFollowed_2 rfl rfl ?_
  refine zg_iload_n (q := 4) C dX6_isFollowed_3 rfl rfl ?_
  refine zg_icmp_gt (t := 34) (q := 7) C dX6_isFollowed_4 (by decide) rfl (fun c => ?_) (fun c => ?_)
  · have v := v.1 c
    refine zg_iconst (v := 0) (q := 35) C dX6_isFollowed_34 (by decide) rfl ?_
    exact zg_zret C rfl dX6_isFollowed_35 ⟨Nat.le_refl _, Nat.le_refl _⟩ v.1 ⟨_, rfl, v.2⟩
  · have v := v.2 c
    refine zg_iload_n (q := 8) C dX6_isFollowed_7 rfl rfl ?_
    refine zg_aload_n (q := 9) C dX6_isFollowed_8 rfl rfl ?_
    refine zg_get (j := 7) (q := 12) C bX6 (by decide) lkX6_33 dX6_isFollowed_9 rfl (okA.get v.1) ?_
    have v := v.2
    refine zg_alen (t := 0) (q := 13) C (by decide) dX6_isFollowed_12 rfl v.1 ?_
    have v := v.2
    refine zg_icmp_ge (t := 34) (q := 16) C dX6_isFollowed_13 (by decide) rfl (fun c => ?_) (fun c => ?_)
    · have v := v.1 c
      refine zg_iconst (v := 0) (q := 35) C dX6_isFollowed_34 (by decide) rfl ?_
      exact zg_zret C rfl dX6_isFollowed_35 ⟨Nat.le_refl _, Nat.le_refl _⟩ v.1 ⟨_, rfl, v.2⟩
    · have v := v.2 c
      refine zg_aload_n (q := 17) C dX6_isFollowed_16 rfl rfl ?_
      refine zg_get (j := 7) (q := 20) C bX6 (by decide) lkX6_33 dX6_isFollowed_17 rfl (okA.get v.1) ?_
      have v := v.2
      refine zg_iload_n (q := 21) C dX6_isFollowed_20 rfl rfl ?_
      refine zg_iald (q := 22) C dX6_isFollowed_21 rfl v.1 ?_
      have v := v.2
      refine zg_iload_n (q := 23) C dX6_isFollowed_22 rfl rfl ?_
      refine zg_icmp_ne (t := 28) (q := 26) C dX6_isFollowed_23 (by decide) rfl (fun c => ?_) (fun c => ?_)
      · have v := v.1 c
        refine zg_iinc (v := 1) (q := 31) C dX6_isFollowed_28 rfl (by decide) (by decide) rfl ?_
        refine zg_goto (t := 2) C dX6_isFollowed_31 (by decide) ?_
        exact zg_mask [true, true, true, true] v
      · have v := v.2 c
        refine zg_iconst (v := 1) (q := 27) C dX6_isFollowed_26 (by decide) rfl ?_
        exact zg_zret C rfl dX6_isFollowed_27 ⟨Nat.le_refl _, Nat.le_refl _⟩ v.1 ⟨_, rfl, v.2⟩
theorem rnX6_isFollowed {E : Wd} {d : Nat} {a0 : Nat} {x1 : Int32} {x2 : Int32} {h : Hp} {Q : Int32 → Hp → Prop} (k : ∀ (K2 : Nat → Int32 → Int32 → Int32 → Hp → Prop),(∀ (a0 : Nat) (x1 : Int32) (x2 : Int32) (x3 : Int32) h, vcX6_isFollowed_2 E d K2 a0 x1 x2 x3 h Q → K2 a0 x1 x2 x3 h) → vcX6_isFollowed_0 E d K2 a0 x1 x2 h Q) : OkI E YX6_isFollowed d [.ref a0, .int x1, .int x2] h Q :=
  zz_body2 (r := 1) mX6_isFollowed (zc_a (zc_i (zc_i zc_n))) (Nat.le_of_ble_eq_true rfl) (fun X C => zsX6_isFollowed_0 C a0 x1 x2 h (k (zkX6_isFollowed_2 E X) (fun a0 x1 x2 x3 h v => zsX6_isFollowed_2 C a0 x1 x2 x3 h v)))
def vcX6_followed_0 (E : Wd) (d : Nat) (a0 : Nat) (x1 : Int32) (h : Hp) (Q : Int32 → Hp → Prop) : Prop :=
  (x1 < (0 : Int32) → Q ((-1)) h) ∧ (¬ x1 < (0 : Int32) → okA h a0 6 7 ∧ okL E h (fA h a0 7) 0 ∧ ((lA h (fA h a0 7)) ≤ x1 → Q ((-1)) h) ∧ (¬ (lA h (fA h a0 7)) ≤ x1 → okA h a0 6 7 ∧ okR E h (fA h a0 7) 0 x1 ∧ Q (gA h (fA h a0 7) x1) h))
set_option maxRecDepth 100000 in
set_option maxHeartbeats 4000000 in
theorem zsX6_followed_0 {E : Wd} {X : Mx} {d : Nat} {Q : Int32 → Hp → Prop} (C : zz_C E X YX6_followed d 0 0 (fun r h' => ∃ x : Int32, r = some (.int x) ∧ Q x h')) (a0 : Nat) (x1 : Int32) (h : Hp) (v : vcX6_followed_0 E d a0 x1 h Q) : GG E X 2 0 0 0 [some (.ref a0), some (.int x1)] [] h := by
  refine zg_iload_n (q := 1) C dX6_followed_0 rfl rfl ?_
  refine zg_if_lt (t := 22) (q := 4) C dX6_followed_1 (by decide) rfl (fun c => ?_) (fun c => ?_)
  · have v := v.1 c
    refine zg_iconst (v := (-1)) (q := 23) C dX6_followed_22 (by decide) rfl ?_
    exact zg_iret C rfl dX6_followed_23 ⟨Nat.le_refl _, Nat.le_refl _⟩ ⟨_, rfl, v⟩
  · have v := v.2 c
    refine zg_iload_n (q := 5) C dX6_followed_4 rfl rfl ?_
    refine zg_aload_n (q := 6) C dX6_followed_5 rfl rfl ?_
    refine zg_get (j := 7) (q := 9) C bX6 (by decide) lkX6_33 dX6_followed_6 rfl (okA.get v.1) ?_
    have v := v.2
    refine zg_alen (t := 0) (q := 10) C (by decide) dX6_followed_9 rfl v.1 ?_
    have v := v.2
    refine zg_icmp_ge (t := 22) (q := 13) C dX6_followed_10 (by decide) rfl (fun c => ?_) (fun c => ?_)
    · have v := v.1 c
      refine zg_iconst (v := (-1)) (q := 23) C dX6_followed_22 (by decide) rfl ?_
      exact zg_iret C rfl dX6_followed_23 ⟨Nat.le_refl _, Nat.le_refl _⟩ ⟨_, rfl, v⟩
    · have v := v.2 c
      refine zg_aload_n (q := 14) C dX6_followed_13 rfl rfl ?_
      refine zg_get (j := 7) (q := 17) C bX6 (by decide) lkX6_33 dX6_followed_14 rfl (okA.get v.1) ?_
      have v := v.2
      refine zg_iload_n (q := 18) C dX6_followed_17 rfl rfl ?_
      refine zg_iald (q := 19) C dX6_followed_18 rfl v.1 ?_
      have v := v.2
      refine zg_goto (t := 23) C dX6_followed_19 (by decide) ?_
      exact zg_iret C rfl dX6_followed_23 ⟨Nat.le_refl _, Nat.le_refl _⟩ ⟨_, rfl, v⟩
theorem rnX6_followed {E : Wd} {d : Nat} {a0 : Nat} {x1 : Int32} {h : Hp} {Q : Int32 → Hp → Prop} (k : vcX6_followed_0 E d a0 x1 h Q) : OkI E YX6_followed d [.ref a0, .int x1] h Q :=
  zz_body2 (r := 0) mX6_followed (zc_a (zc_i zc_n)) (Nat.le_of_ble_eq_true rfl) (fun X C => zsX6_followed_0 C a0 x1 h k)
def vcX6_searched_0 (E : Wd) (d : Nat) (K30 : Nat → Int32 → Int32 → Int32 → Int32 → Hp → Prop) (a0 : Nat) (x1 : Int32) (x2 : Int32) (h : Hp) (Q : Int32 → Hp → Prop) : Prop :=
  isO h a0 6 ∧ OkI E YX6_isEnd d [.ref a0, .int x1] h (fun r2 h1 => (r2 = (0 : Int32) → (x2 ≤ (0 : Int32) → Q 0 h1) ∧ (¬ x2 ≤ (0 : Int32) → (x2 ≤ (4 : Int32) → K30 a0 x1 x2 ((-1)) 0 h1) ∧ (¬ x2 ≤ (4 : Int32) → Q 0 h1))) ∧ (¬ r2 = (0 : Int32) → isO h1 a0 6 ∧ OkI E YX6_endValue d [.ref a0, .int x1] h1 (fun r4 h3 => Q r4 h3)))
def vcX6_searched_30 (E : Wd) (d : Nat) (K30 : Nat → Int32 → Int32 → Int32 → Int32 → Hp → Prop) (a0 : Nat) (x1 : Int32) (x2 : Int32) (x3 : Int32) (x4 : Int32) (h : Hp) (Q : Int32 → Hp → Prop) : Prop :=
  ((1 : Int32) ≤ x3 → Q x3 h) ∧ (¬ (1 : Int32) ≤ x3 → isO h a0 6 ∧ OkI E YX6_stepsOf d [.ref a0, .int x1] h (fun r2 h1 => (r2 ≤ x4 → Q x3 h1) ∧ (¬ r2 ≤ x4 → isO h1 a0 6 ∧ OkI E YX6_stepOf d [.ref a0, .int x1, .int x4] h1 (fun r4 h3 => OkI E YX6_searched d [.ref a0, .int r4, .int (x2 - (1 : Int32))] h3 (fun r6 h5 => K30 a0 x1 x2 (if x3 < (-r6) then (-r6) else x3) (x4 + 1) h5)))))
def zkX6_searched_30 (E : Wd) (X : Mx) : Nat → Int32 → Int32 → Int32 → Int32 → Hp → Prop := fun a0 x1 x2 x3 x4 h => GG E X 5 0 0 30 [some (.ref a0), some (.int x1), some (.int x2), some (.int x3), some (.int x4)] [] h
set_option maxRecDepth 100000 in
set_option maxHeartbeats 4000000 in
theorem zsX6_searched_0 {E : Wd} {X : Mx} {d : Nat} {Q : Int32 → Hp → Prop} (C : zz_C E X YX6_searched (d + 1) 0 0 (fun r h' => ∃ x : Int32, r = some (.int x) ∧ Q x h')) (a0 : Nat) (x1 : Int32) (x2 : Int32) (h : Hp) (v : vcX6_searched_0 E d (zkX6_searched_30 E X) a0 x1 x2 h Q) : GG E X 5 0 0 0 [some (.ref a0), some (.int x1), some (.int x2), none, none] [] h := by
  refine zg_aload_n (q := 1) C dX6_searched_0 rfl rfl ?_
  refine zg_iload_n (q := 2) C dX6_searched_1 rfl rfl ?_
  refine zg_cV1I (q := 5) C mX6_isEnd vX6_isEnd lmX6_123 rfl (bX6).1 v.1 (Nat.le_of_ble_eq_true rfl) ⟨Nat.le_refl _, Nat.le_refl _⟩ dX6_searched_2 rfl v.2 (fun r2 h1 v => ?_)
  refine zg_if_eq (t := 14) (q := 8) C dX6_searched_5 (by decide) rfl (fun c => ?_) (fun c => ?_)
  · have v := v.1 c
    refine zg_iload_n (q := 15) C dX6_searched_14 rfl rfl ?_
    refine zg_if_le (t := 23) (q := 18) C dX6_searched_15 (by decide) rfl (fun c => ?_) (fun c => ?_)
    · have v := v.1 c
      refine zg_iconst (v := 0) (q := 24) C dX6_searched_23 (by decide) rfl ?_
      exact zg_iret C rfl dX6_searched_24 ⟨Nat.le_refl _, Nat.le_refl _⟩ ⟨_, rfl, v⟩
    · have v := v.2 c
      refine zg_iload_n (q := 19) C dX6_searched_18 rfl rfl ?_
      refine zg_iconst (v := 4) (q := 20) C dX6_searched_19 (by decide) rfl ?_
      refine zg_icmp_le (t := 25) (q := 23) C dX6_searched_20 (by decide) rfl (fun c => ?_) (fun c => ?_)
      · have v := v.1 c
        refine zg_iconst (v := (-1)) (q := 26) C dX6_searched_25 (by decide) rfl ?_
        refine zg_istore_n (q := 27) C dX6_searched_26 (by decide) rfl ?_
        refine zg_iconst (v := 0) (q := 28) C dX6_searched_27 (by decide) rfl ?_
        refine zg_istore (q := 30) C dX6_searched_28 (by decide) rfl ?_
        exact zg_mask [true, true, true, true, true] v
      · have v := v.2 c
        refine zg_iconst (v := 0) (q := 24) C dX6_searched_23 (by decide) rfl ?_
        exact zg_iret C rfl dX6_searched_24 ⟨Nat.le_refl _, Nat.le_refl _⟩ ⟨_, rfl, v⟩
  · have v := v.2 c
    refine zg_aload_n (q := 9) C dX6_searched_8 rfl rfl ?_
    refine zg_iload_n (q := 10) C dX6_searched_9 rfl rfl ?_
    refine zg_cV1I (q := 13) C mX6_endValue vX6_endValue lmX6_126 rfl (bX6).1 v.1 (Nat.le_of_ble_eq_true rfl) ⟨Nat.le_refl _, Nat.le_refl _⟩ dX6_searched_10 rfl v.2 (fun r4 h3 v => ?_)
    exact zg_iret C rfl dX6_searched_13 ⟨Nat.le_refl _, Nat.le_refl _⟩ ⟨_, rfl, v⟩
set_option maxRecDepth 100000 in
set_option maxHeartbeats 4000000 in
theorem zsX6_searched_30 {E : Wd} {X : Mx} {d : Nat} {Q : Int32 → Hp → Prop} (C : zz_C E X YX6_searched (d + 1) 0 0 (fun r h' => ∃ x : Int32, r = some (.int x) ∧ Q x h')) (a0 : Nat) (x1 : Int32) (x2 : Int32) (x3 : Int32) (x4 : Int32) (h : Hp) (v : vcX6_searched_30 E d (zkX6_searched_30 E X) a0 x1 x2 x3 x4 h Q) : GG E X 5 0 0 30 [some (.ref a0), some (.int x1), some (.int x2), some (.int x3), some (.int x4)] [] h := by
  refine zg_iload_n (q := 31) C dX6_searched_30 rfl rfl ?_
  refine zg_iconst (v := 1) (q := 32) C dX6_searched_31 (by decide) rfl ?_
  refine zg_icmp_ge (t := 71) (q := 35) C dX6_searched_32 (by decide) rfl (fun c => ?_) (fun c => ?_)
  · have v := v.1 c
    refine zg_iload_n (q := 72) C dX6_searched_71 rfl rfl ?_
    exact zg_iret C rfl dX6_searched_72 ⟨Nat.le_refl _, Nat.le_refl _⟩ ⟨_, rfl, v⟩
  · have v := v.2 c
    refine zg_iload (q := 37) C dX6_searched_35 rfl rfl ?_
    refine zg_aload_n (q := 38) C dX6_searched_37 rfl rfl ?_
    refine zg_iload_n (q := 39) C dX6_searched_38 rfl rfl ?_
    refine zg_cV1I (q := 42) C mX6_stepsOf vX6_stepsOf lmX6_166 rfl (bX6).1 v.1 (Nat.le_of_ble_eq_true rfl) ⟨Nat.le_refl _, Nat.le_refl _⟩ dX6_searched_39 rfl v.2 (fun r2 h1 v => ?_)
    refine zg_icmp_ge (t := 71) (q := 45) C dX6_searched_42 (by decide) rfl (fun c => ?_) (fun c => ?_)
    · have v := v.1 c
      refine zg_iload_n (q := 72) C dX6_searched_71 rfl rfl ?_
      exact zg_iret C rfl dX6_searched_72 ⟨Nat.le_refl _, Nat.le_refl _⟩ ⟨_, rfl, v⟩
    · have v := v.2 c
      refine zg_iload_n (q := 46) C dX6_searched_45 rfl rfl ?_
      refine zg_aload_n (q := 47) C dX6_searched_46 rfl rfl ?_
      refine zg_aload_n (q := 48) C dX6_searched_47 rfl rfl ?_
      refine zg_iload_n (q := 49) C dX6_searched_48 rfl rfl ?_
      refine zg_iload (q := 51) C dX6_searched_49 rfl rfl ?_
      refine zg_cV2I (q := 54) C mX6_stepOf vX6_stepOf lmX6_169 rfl (bX6).1 v.1 (Nat.le_of_ble_eq_true rfl) ⟨Nat.le_refl _, Nat.le_refl _⟩ dX6_searched_51 rfl v.2 (fun r4 h3 v => ?_)
      refine zg_iload_n (q := 55) C dX6_searched_54 rfl rfl ?_
      refine zg_iconst (v := 1) (q := 56) C dX6_searched_55 (by decide) rfl ?_
      refine zg_isub (q := 57) C dX6_searched_56 rfl ?_
      refine zg_cS3I (q := 60) C mX6_searched tX6_searched lmX6_178 rfl (Nat.le_of_ble_eq_true rfl) ⟨Nat.le_refl _, Nat.le_refl _⟩ dX6_searched_57 rfl v (fun r6 h5 v => ?_)
      refine zg_ineg (q := 61) C dX6_searched_60 rfl ?_
      refine zg_max (q := 64) C maX6_182 rfl (Nat.le_add_left _ _) (Nat.le_of_ble_eq_true rfl) ⟨Nat.le_refl _, Nat.le_refl _⟩ dX6_searched_61 rfl ?_
      refine zg_istore_n (q := 65) C dX6_searched_64 (by decide) rfl ?_
      refine zg_iinc (v := 1) (q := 68) C dX6_searched_65 rfl (by decide) (by decide) rfl ?_
      refine zg_goto (t := 30) C dX6_searched_68 (by decide) ?_
      exact zg_mask [true, true, true, true, true] v
theorem rnX6_searched {E : Wd} {d : Nat} {a0 : Nat} {x1 : Int32} {x2 : Int32} {h : Hp} {Q : Int32 → Hp → Prop} (k : ∀ (K30 : Nat → Int32 → Int32 → Int32 → Int32 → Hp → Prop),(∀ (a0 : Nat) (x1 : Int32) (x2 : Int32) (x3 : Int32) (x4 : Int32) h, vcX6_searched_30 E d K30 a0 x1 x2 x3 x4 h Q → K30 a0 x1 x2 x3 x4 h) → vcX6_searched_0 E d K30 a0 x1 x2 h Q) : OkI E YX6_searched (d + 1) [.ref a0, .int x1, .int x2] h Q :=
  zz_body2 (r := 2) mX6_searched (zc_a (zc_i (zc_i zc_n))) (Nat.le_of_ble_eq_true rfl) (fun X C => zsX6_searched_0 C a0 x1 x2 h (k (zkX6_searched_30 E X) (fun a0 x1 x2 x3 x4 h v => zsX6_searched_30 C a0 x1 x2 x3 x4 h v)))
def vcX6_numberWithValue_0 (E : Wd) (d : Nat) (K6 : Nat → Int32 → Int32 → Int32 → Int32 → Hp → Prop) (a0 : Nat) (x1 : Int32) (x2 : Int32) (x3 : Int32) (h : Hp) (Q : Int32 → Hp → Prop) : Prop :=
  K6 a0 x2 x3 0 x1 h
def vcX6_numberWithValue_52 (E : Wd) (d : Nat) (K6 : Nat → Int32 → Int32 → Int32 → Int32 → Hp → Prop) (a0 : Nat) (x2 : Int32) (x3 : Int32) (x4 : Int32) (x5 : Int32) (s0 : Int32) (h : Hp) (Q : Int32 → Hp → Prop) : Prop :=
  (x3 = (2 : Int32) → K6 a0 x2 x3 (x4 + 1) (x5 + 2) h) ∧ (¬ x3 = (2 : Int32) → (¬ x3 = s0 → K6 a0 x2 x3 x4 (x5 + 2) h) ∧ (x3 = s0 → K6 a0 x2 x3 (x4 + 1) (x5 + 2) h))
def vcX6_numberWithValue_6 (E : Wd) (d : Nat) (K6 : Nat → Int32 → Int32 → Int32 → Int32 → Hp → Prop) (a0 : Nat) (x2 : Int32) (x3 : Int32) (x4 : Int32) (x5 : Int32) (h : Hp) (Q : Int32 → Hp → Prop) : Prop :=
  okI h a0 6 12 ∧ ((fI h a0 12) ≤ x5 → Q x4 h) ∧ (¬ (fI h a0 12) ≤ x5 → isO h a0 6 ∧ OkI E YX6_isPossible d [.ref a0, .int x5] h (fun r2 h1 => (r2 = (0 : Int32) → K6 a0 x2 x3 x4 (x5 + 2) h1) ∧ (¬ r2 = (0 : Int32) → isO h1 a0 6 ∧ OkI E YX6_valueOf d [.ref a0, .int x5] h1 (fun r4 h3 => (r4 = x2 → okA h3 a0 6 1 ∧ okR E h3 (fA h3 a0 1) 0 x5 ∧ ((gA h3 (fA h3 a0 1) x5) ≤ (0 : Int32) → vcX6_numberWithValue_52 E d K6 a0 x2 x3 x4 x5 0 h3 Q) ∧ (¬ (gA h3 (fA h3 a0 1) x5) ≤ (0 : Int32) → vcX6_numberWithValue_52 E d K6 a0 x2 x3 x4 x5 1 h3 Q)) ∧ (¬ r4 = x2 → K6 a0 x2 x3 x4 (x5 + 2) h3)))))
def zkX6_numberWithValue_6 (E : Wd) (X : Mx) : Nat → Int32 → Int32 → Int32 → Int32 → Hp → Prop := fun a0 x2 x3 x4 x5 h => GG E X 7 0 0 6 [some (.ref a0), none, some (.int x2), some (.int x3), some (.int x4), some (.int x5), none] [] h
set_option maxRecDepth 100000 in
set_option maxHeartbeats 4000000 in
theorem zsX6_numberWithValue_0 {E : Wd} {X : Mx} {d : Nat} {Q : Int32 → Hp → Prop} (C : zz_C E X YX6_numberWithValue (d + 1) 0 0 (fun r h' => ∃ x : Int32, r = some (.int x) ∧ Q x h')) (a0 : Nat) (x1 : Int32) (x2 : Int32) (x3 : Int32) (h : Hp) (v : vcX6_numberWithValue_0 E d (zkX6_numberWithValue_6 E X) a0 x1 x2 x3 h Q) : GG E X 7 0 0 0 [some (.ref a0), some (.int x1), some (.int x2), some (.int x3), none, none, none] [] h := by
  refine zg_iconst (v := 0) (q := 1) C dX6_numberWithValue_0 (by decide) rfl ?_
  refine zg_istore (q := 3) C dX6_numberWithValue_1 (by decide) rfl ?_
  refine zg_iload_n (q := 4) C dX6_numberWithValue_3 rfl rfl ?_
  refine zg_istore (q := 6) C dX6_numberWithValue_4 (by decide) rfl ?_
  exact zg_mask [true, false, true, true, true, true, false] v
set_option maxRecDepth 100000 in
set_option maxHeartbeats 4000000 in
theorem zsX6_numberWithValue_52 {E : Wd} {X : Mx} {d : Nat} {Q : Int32 → Hp → Prop} (C : zz_C E X YX6_numberWithValue (d + 1) 0 0 (fun r h' => ∃ x : Int32, r = some (.int x) ∧ Q x h')) (a0 : Nat) (x2 : Int32) (x3 : Int32) (x4 : Int32) (x5 : Int32) (s0 : Int32) (h : Hp) (v : vcX6_numberWithValue_52 E d (zkX6_numberWithValue_6 E X) a0 x2 x3 x4 x5 s0 h Q) : GG E X 7 0 0 52 [some (.ref a0), none, some (.int x2), some (.int x3), some (.int x4), some (.int x5), none] [.int s0] h := by
  refine zg_istore (q := 54) C dX6_numberWithValue_52 (by decide) rfl ?_
  refine zg_iload_n (q := 55) C dX6_numberWithValue_54 rfl rfl ?_
  refine zg_iconst (v := 2) (q := 56) C dX6_numberWithValue_55 (by decide) rfl ?_
  refine zg_icmp_eq (t := 65) (q := 59) C dX6_numberWithValue_56 (by decide) rfl (fun c => ?_) (fun c => ?_)
  · have v := v.1 c
    refine zg_iinc (v := 1) (q := 68) C dX6_numberWithValue_65 rfl (by decide) (by decide) rfl ?_
    refine zg_iinc (v := 2) (q := 71) C dX6_numberWithValue_68 rfl (by decide) (by decide) rfl ?_
    refine zg_goto (t := 6) C dX6_numberWithValue_71 (by decide) ?_
    exact zg_mask [true, false, true, true, true, true, false] v
  · have v := v.2 c
    refine zg_iload_n (q := 60) C dX6_numberWithValue_59 rfl rfl ?_
    refine zg_iload (q := 62) C dX6_numberWithValue_60 rfl rfl ?_
    refine zg_icmp_ne (t := 68) (q := 65) C dX6_numberWithValue_62 (by decide) rfl (fun c => ?_) (fun c => ?_)
    · have v := v.1 c
      refine zg_iinc (v := 2) (q := 71) C dX6_numberWithValue_68 rfl (by decide) (by decide) rfl ?_
      refine zg_goto (t := 6) C dX6_numberWithValue_71 (by decide) ?_
      exact zg_mask [true, false, true, true, true, true, false] v
    · have v := v.2 c
      refine zg_iinc (v := 1) (q := 68) C dX6_numberWithValue_65 rfl (by decide) (by decide) rfl ?_
      refine zg_iinc (v := 2) (q := 71) C dX6_numberWithValue_68 rfl (by decide) (by decide) rfl ?_
      refine zg_goto (t := 6) C dX6_numberWithValue_71 (by decide) ?_
      exact zg_mask [true, false, true, true, true, true, false] v
set_option maxRecDepth 100000 in
set_option maxHeartbeats 4000000 in
theorem zsX6_numberWithValue_6 {E : Wd} {X : Mx} {d : Nat} {Q : Int32 → Hp → Prop} (C : zz_C E X YX6_numberWithValue (d + 1) 0 0 (fun r h' => ∃ x : Int32, r = some (.int x) ∧ Q x h')) (a0 : Nat) (x2 : Int32) (x3 : Int32) (x4 : Int32) (x5 : Int32) (h : Hp) (v : vcX6_numberWithValue_6 E d (zkX6_numberWithValue_6 E X) a0 x2 x3 x4 x5 h Q) : GG E X 7 0 0 6 [some (.ref a0), none, some (.int x2), some (.int x3), some (.int x4), some (.int x5), none] [] h := by
  refine zg_iload (q := 8) C dX6_numberWithValue_6 rfl rfl ?_
  refine zg_aload_n (q := 9) C dX6_numberWithValue_8 rfl rfl ?_
  refine zg_get (j := 12) (q := 12) C bX6 (by decide) lkX6_62 dX6_numberWithValue_9 rfl (okI.get v.1) ?_
  have v := v.2
  refine zg_icmp_ge (t := 74) (q := 15) C dX6_numberWithValue_12 (by decide) rfl (fun c => ?_) (fun c => ?_)
  · have v := v.1 c
    refine zg_iload (q := 76) C dX6_numberWithValue_74 rfl rfl ?_
    exact zg_iret C rfl dX6_numberWithValue_76 ⟨Nat.le_refl _, Nat.le_refl _⟩ ⟨_, rfl, v⟩
  · have v := v.2 c
    refine zg_aload_n (q := 16) C dX6_numberWithValue_15 rfl rfl ?_
    refine zg_iload (q := 18) C dX6_numberWithValue_16 rfl rfl ?_
    refine zg_cV1I (q := 21) C mX6_isPossible vX6_isPossible lmX6_187 rfl (bX6).1 v.1 (Nat.le_of_ble_eq_true rfl) ⟨Nat.le_refl _, Nat.le_refl _⟩ dX6_numberWithValue_18 rfl v.2 (fun r2 h1 v => ?_)
    refine zg_if_eq (t := 68) (q := 24) C dX6_numberWithValue_21 (by decide) rfl (fun c => ?_) (fun c => ?_)
    · have v := v.1 c
      refine zg_iinc (v := 2) (q := 71) C dX6_numberWithValue_68 rfl (by decide) (by decide) rfl ?_
      refine zg_goto (t := 6) C dX6_numberWithValue_71 (by decide) ?_
      exact zg_mask [true, false, true, true, true, true, false] v
    · have v := v.2 c
      refine zg_aload_n (q := 25) C dX6_numberWithValue_24 rfl rfl ?_
      refine zg_iload (q := 27) C dX6_numberWithValue_25 rfl rfl ?_
      refine zg_cV1I (q := 30) C mX6_valueOf vX6_valueOf lmX6_144 rfl (bX6).1 v.1 (Nat.le_of_ble_eq_true rfl) ⟨Nat.le_refl _, Nat.le_refl _⟩ dX6_numberWithValue_27 rfl v.2 (fun r4 h3 v => ?_)
      refine zg_iload_n (q := 31) C dX6_numberWithValue_30 rfl rfl ?_
      refine zg_icmp_eq (t := 37) (q := 34) C dX6_numberWithValue_31 (by decide) rfl (fun c => ?_) (fun c => ?_)
      · have v := v.1 c
        refine zg_aload_n (q := 38) C dX6_numberWithValue_37 rfl rfl ?_
        refine zg_get (j := 1) (q := 41) C bX6 (by decide) lkX6_15 dX6_numberWithValue_38 rfl (okA.get v.1) ?_
        have v := v.2
        refine zg_iload (q := 43) C dX6_numberWithValue_41 rfl rfl ?_
        refine zg_iald (q := 44) C dX6_numberWithValue_43 rfl v.1 ?_
        have v := v.2
        refine zg_if_le (t := 51) (q := 47) C dX6_numberWithValue_44 (by decide) rfl (fun c => ?_) (fun c => ?_)
        · have v := v.1 c
          refine zg_iconst (v := 0) (q := 52) C dX6_numberWithValue_51 (by decide) rfl ?_
          exact zg_mask [true, false, true, true, true, true, false] (zsX6_numberWithValue_52 C _ _ _ _ _ _ _ v)
        · have v := v.2 c
          refine zg_iconst (v := 1) (q := 48) C dX6_numberWithValue_47 (by decide) rfl ?_
          refine zg_goto (t := 52) C dX6_numberWithValue_48 (by decide) ?_
          exact zg_mask [true, false, true, true, true, true, false] (zsX6_numberWithValue_52 C _ _ _ _ _ _ _ v)
      · have v := v.2 c
        refine zg_goto (t := 68) C dX6_numberWithValue_34 (by decide) ?_
        refine zg_iinc (v := 2) (q := 71) C dX6_numberWithValue_68 rfl (by decide) (by decide) rfl ?_
        refine zg_goto (t := 6) C dX6_numberWithValue_71 (by decide) ?_
        exact zg_mask [true, false, true, true, true, true, false] v
theorem rnX6_numberWithValue {E : Wd} {d : Nat} {a0 : Nat} {x1 : Int32} {x2 : Int32} {x3 : Int32} {h : Hp} {Q : Int32 → Hp → Prop} (k : ∀ (K6 : Nat → Int32 → Int32 → Int32 → Int32 → Hp → Prop),(∀ (a0 : Nat) (x2 : Int32) (x3 : Int32) (x4 : Int32) (x5 : Int32) h, vcX6_numberWithValue_6 E d K6 a0 x2 x3 x4 x5 h Q → K6 a0 x2 x3 x4 x5 h) → vcX6_numberWithValue_0 E d K6 a0 x1 x2 x3 h Q) : OkI E YX6_numberWithValue (d + 1) [.ref a0, .int x1, .int x2, .int x3] h Q :=
  zz_body2 (r := 3) mX6_numberWithValue (zc_a (zc_i (zc_i (zc_i zc_n)))) (Nat.le_of_ble_eq_true rfl) (fun X C => zsX6_numberWithValue_0 C a0 x1 x2 x3 h (k (zkX6_numberWithValue_6 E X) (fun a0 x2 x3 x4 x5 h v => zsX6_numberWithValue_6 C a0 x2 x3 x4 x5 h v)))
def vcX6_numberWithDistance_0 (E : Wd) (d : Nat) (K6 : Nat → Int32 → Int32 → Int32 → Int32 → Hp → Prop) (a0 : Nat) (x1 : Int32) (x2 : Int32) (x3 : Int32) (h : Hp) (Q : Int32 → Hp → Prop) : Prop :=
  K6 a0 x1 x3 0 x2 h
def vcX6_numberWithDistance_6 (E : Wd) (d : Nat) (K6 : Nat → Int32 → Int32 → Int32 → Int32 → Hp → Prop) (a0 : Nat) (x1 : Int32) (x3 : Int32) (x4 : Int32) (x5 : Int32) (h : Hp) (Q : Int32 → Hp → Prop) : Prop :=
  okI h a0 6 12 ∧ ((fI h a0 12) ≤ x5 → Q x4 h) ∧ (¬ (fI h a0 12) ≤ x5 → isO h a0 6 ∧ OkI E YX6_isPossible d [.ref a0, .int x5] h (fun r2 h1 => (r2 = (0 : Int32) → K6 a0 x1 x3 x4 (x5 + 2) h1) ∧ (¬ r2 = (0 : Int32) → isO h1 a0 6 ∧ OkI E YX6_distanceOf d [.ref a0, .int x1, .int x5] h1 (fun r4 h3 => (¬ r4 = x3 → K6 a0 x1 x3 x4 (x5 + 2) h3) ∧ (r4 = x3 → K6 a0 x1 x3 (x4 + 1) (x5 + 2) h3)))))
def zkX6_numberWithDistance_6 (E : Wd) (X : Mx) : Nat → Int32 → Int32 → Int32 → Int32 → Hp → Prop := fun a0 x1 x3 x4 x5 h => GG E X 6 0 0 6 [some (.ref a0), some (.int x1), none, some (.int x3), some (.int x4), some (.int x5)] [] h
set_option maxRecDepth 100000 in
set_option maxHeartbeats 4000000 in
theorem zsX6_numberWithDistance_0 {E : Wd} {X : Mx} {d : Nat} {Q : Int32 → Hp → Prop} (C : zz_C E X YX6_numberWithDistance (d + 1) 0 0 (fun r h' => ∃ x : Int32, r = some (.int x) ∧ Q x h')) (a0 : Nat) (x1 : Int32) (x2 : Int32) (x3 : Int32) (h : Hp) (v : vcX6_numberWithDistance_0 E d (zkX6_numberWithDistance_6 E X) a0 x1 x2 x3 h Q) : GG E X 6 0 0 0 [some (.ref a0), some (.int x1), some (.int x2), some (.int x3), none, none] [] h := by
  refine zg_iconst (v := 0) (q := 1) C dX6_numberWithDistance_0 (by decide) rfl ?_
  refine zg_istore (q := 3) C dX6_numberWithDistance_1 (by decide) rfl ?_
  refine zg_iload_n (q := 4) C dX6_numberWithDistance_3 rfl rfl ?_
  refine zg_istore (q := 6) C dX6_numberWithDistance_4 (by decide) rfl ?_
  exact zg_mask [true, true, false, true, true, true] v
set_option maxRecDepth 100000 in
set_option maxHeartbeats 4000000 in
theorem zsX6_numberWithDistance_6 {E : Wd} {X : Mx} {d : Nat} {Q : Int32 → Hp → Prop} (C : zz_C E X YX6_numberWithDistance (d + 1) 0 0 (fun r h' => ∃ x : Int32, r = some (.int x) ∧ Q x h')) (a0 : Nat) (x1 : Int32) (x3 : Int32) (x4 : Int32) (x5 : Int32) (h : Hp) (v : vcX6_numberWithDistance_6 E d (zkX6_numberWithDistance_6 E X) a0 x1 x3 x4 x5 h Q) : GG E X 6 0 0 6 [some (.ref a0), some (.int x1), none, some (.int x3), some (.int x4), some (.int x5)] [] h := by
  refine zg_iload (q := 8) C dX6_numberWithDistance_6 rfl rfl ?_
  refine zg_aload_n (q := 9) C dX6_numberWithDistance_8 rfl rfl ?_
  refine zg_get (j := 12) (q := 12) C bX6 (by decide) lkX6_62 dX6_numberWithDistance_9 rfl (okI.get v.1) ?_
  have v := v.2
  refine zg_icmp_ge (t := 44) (q := 15) C dX6_numberWithDistance_12 (by decide) rfl (fun c => ?_) (fun c => ?_)
  · have v := v.1 c
    refine zg_iload (q := 46) C dX6_numberWithDistance_44 rfl rfl ?_
    exact zg_iret C rfl dX6_numberWithDistance_46 ⟨Nat.le_refl _, Nat.le_refl _⟩ ⟨_, rfl, v⟩
  · have v := v.2 c
    refine zg_aload_n (q := 16) C dX6_numberWithDistance_15 rfl rfl ?_
    refine zg_iload (q := 18) C dX6_numberWithDistance_16 rfl rfl ?_
    refine zg_cV1I (q := 21) C mX6_isPossible vX6_isPossible lmX6_187 rfl (bX6).1 v.1 (Nat.le_of_ble_eq_true rfl) ⟨Nat.le_refl _, Nat.le_refl _⟩ dX6_numberWithDistance_18 rfl v.2 (fun r2 h1 v => ?_)
    refine zg_if_eq (t := 38) (q := 24) C dX6_numberWithDistance_21 (by decide) rfl (fun c => ?_) (fun c => ?_)
    · have v := v.1 c
      refine zg_iinc (v := 2) (q := 41) C dX6_numberWithDistance_38 rfl (by decide) (by decide) rfl ?_
      refine zg_goto (t := 6) C dX6_numberWithDistance_41 (by decide) ?_
      exact zg_mask [true, true, false, true, true, true] v
    · have v := v.2 c
      refine zg_aload_n (q := 25) C dX6_numberWithDistance_24 rfl rfl ?_
      refine zg_iload_n (q := 26) C dX6_numberWithDistance_25 rfl rfl ?_
      refine zg_iload (q := 28) C dX6_numberWithDistance_26 rfl rfl ?_
      refine zg_cV2I (q := 31) C mX6_distanceOf vX6_distanceOf lmX6_189 rfl (bX6).1 v.1 (Nat.le_of_ble_eq_true rfl) ⟨Nat.le_refl _, Nat.le_refl _⟩ dX6_numberWithDistance_28 rfl v.2 (fun r4 h3 v => ?_)
      refine zg_iload_n (q := 32) C dX6_numberWithDistance_31 rfl rfl ?_
      refine zg_icmp_ne (t := 38) (q := 35) C dX6_numberWithDistance_32 (by decide) rfl (fun c => ?_) (fun c => ?_)
      · have v := v.1 c
        refine zg_iinc (v := 2) (q := 41) C dX6_numberWithDistance_38 rfl (by decide) (by decide) rfl ?_
        refine zg_goto (t := 6) C dX6_numberWithDistance_41 (by decide) ?_
        exact zg_mask [true, true, false, true, true, true] v
      · have v := v.2 c
        refine zg_iinc (v := 1) (q := 38) C dX6_numberWithDistance_35 rfl (by decide) (by decide) rfl ?_
        refine zg_iinc (v := 2) (q := 41) C dX6_numberWithDistance_38 rfl (by decide) (by decide) rfl ?_
        refine zg_goto (t := 6) C dX6_numberWithDistance_41 (by decide) ?_
        exact zg_mask [true, true, false, true, true, true] v
theorem rnX6_numberWithDistance {E : Wd} {d : Nat} {a0 : Nat} {x1 : Int32} {x2 : Int32} {x3 : Int32} {h : Hp} {Q : Int32 → Hp → Prop} (k : ∀ (K6 : Nat → Int32 → Int32 → Int32 → Int32 → Hp → Prop),(∀ (a0 : Nat) (x1 : Int32) (x3 : Int32) (x4 : Int32) (x5 : Int32) h, vcX6_numberWithDistance_6 E d K6 a0 x1 x3 x4 x5 h Q → K6 a0 x1 x3 x4 x5 h) → vcX6_numberWithDistance_0 E d K6 a0 x1 x2 x3 h Q) : OkI E YX6_numberWithDistance (d + 1) [.ref a0, .int x1, .int x2, .int x3] h Q :=
  zz_body2 (r := 2) mX6_numberWithDistance (zc_a (zc_i (zc_i (zc_i zc_n)))) (Nat.le_of_ble_eq_true rfl) (fun X C => zsX6_numberWithDistance_0 C a0 x1 x2 x3 h (k (zkX6_numberWithDistance_6 E X) (fun a0 x1 x3 x4 x5 h v => zsX6_numberWithDistance_6 C a0 x1 x3 x4 x5 h v)))
def vcX6_mostDistant_0 (E : Wd) (d : Nat) (K7 : Nat → Int32 → Int32 → Int32 → Int32 → Hp → Prop) (a0 : Nat) (x1 : Int32) (h : Hp) (Q : Int32 → Hp → Prop) : Prop :=
  K7 a0 x1 ((-1)) ((-1)) 0 h
def vcX6_mostDistant_7 (E : Wd) (d : Nat) (K7 : Nat → Int32 → Int32 → Int32 → Int32 → Hp → Prop) (a0 : Nat) (x1 : Int32) (x2 : Int32) (x3 : Int32) (x4 : Int32) (h : Hp) (Q : Int32 → Hp → Prop) : Prop :=
  okI h a0 6 12 ∧ ((fI h a0 12) ≤ x4 → Q x2 h) ∧ (¬ (fI h a0 12) ≤ x4 → isO h a0 6 ∧ OkI E YX6_isPossible d [.ref a0, .int x4] h (fun r2 h1 => (r2 = (0 : Int32) → K7 a0 x1 x2 x3 (x4 + 1) h1) ∧ (¬ r2 = (0 : Int32) → isO h1 a0 6 ∧ OkI E YX6_distanceOf d [.ref a0, .int x1, .int x4] h1 (fun r4 h3 => (x3 < r4 → isO h3 a0 6 ∧ OkI E YX6_distanceOf d [.ref a0, .int x1, .int x4] h3 (fun r6 h5 => K7 a0 x1 x4 r6 (x4 + 1) h5)) ∧ (¬ x3 < r4 → K7 a0 x1 x2 x3 (x4 + 1) h3)))))
def zkX6_mostDistant_7 (E : Wd) (X : Mx) : Nat → Int32 → Int32 → Int32 → Int32 → Hp → Prop := fun a0 x1 x2 x3 x4 h => GG E X 5 0 0 7 [some (.ref a0), some (.int x1), some (.int x2), some (.int x3), some (.int x4)] [] h
set_option maxRecDepth 100000 in
set_option maxHeartbeats 4000000 in
theorem zsX6_mostDistant_0 {E : Wd} {X : Mx} {d : Nat} {Q : Int32 → Hp → Prop} (C : zz_C E X YX6_mostDistant (d + 1) 0 0 (fun r h' => ∃ x : Int32, r = some (.int x) ∧ Q x h')) (a0 : Nat) (x1 : Int32) (h : Hp) (v : vcX6_mostDistant_0 E d (zkX6_mostDistant_7 E X) a0 x1 h Q) : GG E X 5 0 0 0 [some (.ref a0), some (.int x1), none, none, none] [] h := by
  refine zg_iconst (v := (-1)) (q := 1) C dX6_mostDistant_0 (by decide) rfl ?_
  refine zg_istore_n (q := 2) C dX6_mostDistant_1 (by decide) rfl ?_
  refine zg_iconst (v := (-1)) (q := 3) C dX6_mostDistant_2 (by decide) rfl ?_
  refine zg_istore_n (q := 4) C dX6_mostDistant_3 (by decide) rfl ?_
  refine zg_iconst (v := 0) (q := 5) C dX6_mostDistant_4 (by decide) rfl ?_
  refine zg_istore (q := 7) C dX6_mostDistant_5 (by decide) rfl ?_
  exact zg_mask [true, true, true, true, true] v
set_option maxRecDepth 100000 in
set_option maxHeartbeats 4000000 in
theorem zsX6_mostDistant_7 {E : Wd} {X : Mx} {d : Nat} {Q : Int32 → Hp → Prop} (C : zz_C E X YX6_mostDistant (d + 1) 0 0 (fun r h' => ∃ x : Int32, r = some (.int x) ∧ Q x h')) (a0 : Nat) (x1 : Int32) (x2 : Int32) (x3 : Int32) (x4 : Int32) (h : Hp) (v : vcX6_mostDistant_7 E d (zkX6_mostDistant_7 E X) a0 x1 x2 x3 x4 h Q) : GG E X 5 0 0 7 [some (.ref a0), some (.int x1), some (.int x2), some (.int x3), some (.int x4)] [] h := by
  refine zg_iload (q := 9) C dX6_mostDistant_7 rfl rfl ?_
  refine zg_aload_n (q := 10) C dX6_mostDistant_9 rfl rfl ?_
  refine zg_get (j := 12) (q := 13) C bX6 (by decide) lkX6_62 dX6_mostDistant_10 rfl (okI.get v.1) ?_
  have v := v.2
  refine zg_icmp_ge (t := 56) (q := 16) C dX6_mostDistant_13 (by decide) rfl (fun c => ?_) (fun c => ?_)
  · have v := v.1 c
    refine zg_iload_n (q := 57) C dX6_mostDistant_56 rfl rfl ?_
    exact zg_iret C rfl dX6_mostDistant_57 ⟨Nat.le_refl _, Nat.le_refl _⟩ ⟨_, rfl, v⟩
  · have v := v.2 c
    refine zg_aload_n (q := 17) C dX6_mostDistant_16 rfl rfl ?_
    refine zg_iload (q := 19) C dX6_mostDistant_17 rfl rfl ?_
    refine zg_cV1I (q := 22) C mX6_isPossible vX6_isPossible lmX6_187 rfl (bX6).1 v.1 (Nat.le_of_ble_eq_true rfl) ⟨Nat.le_refl _, Nat.le_refl _⟩ dX6_mostDistant_19 rfl v.2 (fun r2 h1 v => ?_)
    refine zg_if_eq (t := 50) (q := 25) C dX6_mostDistant_22 (by decide) rfl (fun c => ?_) (fun c => ?_)
    · have v := v.1 c
      refine zg_iinc (v := 1) (q := 53) C dX6_mostDistant_50 rfl (by decide) (by decide) rfl ?_
      refine zg_goto (t := 7) C dX6_mostDistant_53 (by decide) ?_
      exact zg_mask [true, true, true, true, true] v
    · have v := v.2 c
      refine zg_aload_n (q := 26) C dX6_mostDistant_25 rfl rfl ?_
      refine zg_iload_n (q := 27) C dX6_mostDistant_26 rfl rfl ?_
      refine zg_iload (q := 29) C dX6_mostDistant_27 rfl rfl ?_
      refine zg_cV2I (q := 32) C mX6_distanceOf vX6_distanceOf lmX6_189 rfl (bX6).1 v.1 (Nat.le_of_ble_eq_true rfl) ⟨Nat.le_refl _, Nat.le_refl _⟩ dX6_mostDistant_29 rfl v.2 (fun r4 h3 v => ?_)
      refine zg_iload_n (q := 33) C dX6_mostDistant_32 rfl rfl ?_
      refine zg_icmp_gt (t := 39) (q := 36) C dX6_mostDistant_33 (by decide) rfl (fun c => ?_) (fun c => ?_)
      · have v := v.1 c
        refine zg_iload (q := 41) C dX6_mostDistant_39 rfl rfl ?_
        refine zg_istore_n (q := 42) C dX6_mostDistant_41 (by decide) rfl ?_
        refine zg_aload_n (q := 43) C dX6_mostDistant_42 rfl rfl ?_
        refine zg_iload_n (q := 44) C dX6_mostDistant_43 rfl rfl ?_
        refine zg_iload (q := 46) C dX6_mostDistant_44 rfl rfl ?_
        refine zg_cV2I (q := 49) C mX6_distanceOf vX6_distanceOf lmX6_189 rfl (bX6).1 v.1 (Nat.le_of_ble_eq_true rfl) ⟨Nat.le_refl _, Nat.le_refl _⟩ dX6_mostDistant_46 rfl v.2 (fun r6 h5 v => ?_)
        refine zg_istore_n (q := 50) C dX6_mostDistant_49 (by decide) rfl ?_
        refine zg_iinc (v := 1) (q := 53) C dX6_mostDistant_50 rfl (by decide) (by decide) rfl ?_
        refine zg_goto (t := 7) C dX6_mostDistant_53 (by decide) ?_
        exact zg_mask [true, true, true, true, true] v
      · have v := v.2 c
        refine zg_goto (t := 50) C dX6_mostDistant_36 (by decide) ?_
        refine zg_iinc (v := 1) (q := 53) C dX6_mostDistant_50 rfl (by decide) (by decide) rfl ?_
        refine zg_goto (t := 7) C dX6_mostDistant_53 (by decide) ?_
        exact zg_mask [true, true, true, true, true] v
theorem rnX6_mostDistant {E : Wd} {d : Nat} {a0 : Nat} {x1 : Int32} {h : Hp} {Q : Int32 → Hp → Prop} (k : ∀ (K7 : Nat → Int32 → Int32 → Int32 → Int32 → Hp → Prop),(∀ (a0 : Nat) (x1 : Int32) (x2 : Int32) (x3 : Int32) (x4 : Int32) h, vcX6_mostDistant_7 E d K7 a0 x1 x2 x3 x4 h Q → K7 a0 x1 x2 x3 x4 h) → vcX6_mostDistant_0 E d K7 a0 x1 h Q) : OkI E YX6_mostDistant (d + 1) [.ref a0, .int x1] h Q :=
  zz_body2 (r := 3) mX6_mostDistant (zc_a (zc_i zc_n)) (Nat.le_of_ble_eq_true rfl) (fun X C => zsX6_mostDistant_0 C a0 x1 h (k (zkX6_mostDistant_7 E X) (fun a0 x1 x2 x3 x4 h v => zsX6_mostDistant_7 C a0 x1 x2 x3 x4 h v)))
def vcX6_isMutualZugzwang_0 (E : Wd) (d : Nat) (a0 : Nat) (x1 : Int32) (h : Hp) (Q : Int32 → Hp → Prop) : Prop :=
  isO h a0 6 ∧ OkI E YX6_isPossible d [.ref a0, .int x1] h (fun r2 h1 => (r2 = (0 : Int32) → mB 0 ∧ Q 0 h1) ∧ (¬ r2 = (0 : Int32) → isO h1 a0 6 ∧ OkI E YX6_isPossible d [.ref a0, .int (x1 + (1 : Int32))] h1 (fun r4 h3 => (r4 = (0 : Int32) → mB 0 ∧ Q 0 h3) ∧ (¬ r4 = (0 : Int32) → isO h3 a0 6 ∧ OkI E YX6_valueOf d [.ref a0, .int x1] h3 (fun r6 h5 => isO h5 a0 6 ∧ OkI E YX6_valueOf d [.ref a0, .int (x1 + (1 : Int32))] h5 (fun r8 h7 => ((-r8) ≤ r6 → mB 0 ∧ Q 0 h7) ∧ (¬ (-r8) ≤ r6 → mB 1 ∧ Q 1 h7)))))))
set_option maxRecDepth 100000 in
set_option maxHeartbeats 4000000 in
theorem zsX6_isMutualZugzwang_0 {E : Wd} {X : Mx} {d : Nat} {Q : Int32 → Hp → Prop} (C : zz_C E X YX6_isMutualZugzwang (d + 1) 0 0 (fun r h' => ∃ x : Int32, r = some (.int x) ∧ Q x h')) (a0 : Nat) (x1 : Int32) (h : Hp) (v : vcX6_isMutualZugzwang_0 E d a0 x1 h Q) : GG E X 2 0 0 0 [some (.ref a0), some (.int x1)] [] h := by
  refine zg_aload_n (q := 1) C dX6_isMutualZugzwang_0 rfl rfl ?_
  refine zg_iload_n (q := 2) C dX6_isMutualZugzwang_1 rfl rfl ?_
  refine zg_cV1I (q := 5) C mX6_isPossible vX6_isPossible lmX6_187 rfl (bX6).1 v.1 (Nat.le_of_ble_eq_true rfl) ⟨Nat.le_refl _, Nat.le_refl _⟩ dX6_isMutualZugzwang_2 rfl v.2 (fun r2 h1 v => ?_)
  refine zg_if_eq (t := 38) (q := 8) C dX6_isMutualZugzwang_5 (by decide) rfl (fun c => ?_) (fun c => ?_)
  · have v := v.1 c
    refine zg_iconst (v := 0) (q := 39) C dX6_isMutualZugzwang_38 (by decide) rfl ?_
    exact zg_zret C rfl dX6_isMutualZugzwang_39 ⟨Nat.le_refl _, Nat.le_refl _⟩ v.1 ⟨_, rfl, v.2⟩
  · have v := v.2 c
    refine zg_aload_n (q := 9) C dX6_isMutualZugzwang_8 rfl rfl ?_
    refine zg_iload_n (q := 10) C dX6_isMutualZugzwang_9 rfl rfl ?_
    refine zg_iconst (v := 1) (q := 11) C dX6_isMutualZugzwang_10 (by decide) rfl ?_
    refine zg_iadd (q := 12) C dX6_isMutualZugzwang_11 rfl ?_
    refine zg_cV1I (q := 15) C mX6_isPossible vX6_isPossible lmX6_187 rfl (bX6).1 v.1 (Nat.le_of_ble_eq_true rfl) ⟨Nat.le_refl _, Nat.le_refl _⟩ dX6_isMutualZugzwang_12 rfl v.2 (fun r4 h3 v => ?_)
    refine zg_if_eq (t := 38) (q := 18) C dX6_isMutualZugzwang_15 (by decide) rfl (fun c => ?_) (fun c => ?_)
    · have v := v.1 c
      refine zg_iconst (v := 0) (q := 39) C dX6_isMutualZugzwang_38 (by decide) rfl ?_
      exact zg_zret C rfl dX6_isMutualZugzwang_39 ⟨Nat.le_refl _, Nat.le_refl _⟩ v.1 ⟨_, rfl, v.2⟩
    · have v := v.2 c
      refine zg_aload_n (q := 19) C dX6_isMutualZugzwang_18 rfl rfl ?_
      refine zg_iload_n (q := 20) C dX6_isMutualZugzwang_19 rfl rfl ?_
      refine zg_cV1I (q := 23) C mX6_valueOf vX6_valueOf lmX6_144 rfl (bX6).1 v.1 (Nat.le_of_ble_eq_true rfl) ⟨Nat.le_refl _, Nat.le_refl _⟩ dX6_isMutualZugzwang_20 rfl v.2 (fun r6 h5 v => ?_)
      refine zg_aload_n (q := 24) C dX6_isMutualZugzwang_23 rfl rfl ?_
      refine zg_iload_n (q := 25) C dX6_isMutualZugzwang_24 rfl rfl ?_
      refine zg_iconst (v := 1) (q := 26) C dX6_isMutualZugzwang_25 (by decide) rfl ?_
      refine zg_iadd (q := 27) C dX6_isMutualZugzwang_26 rfl ?_
      refine zg_cV1I (q := 30) C mX6_valueOf vX6_valueOf lmX6_144 rfl (bX6).1 v.1 (Nat.le_of_ble_eq_true rfl) ⟨Nat.le_refl _, Nat.le_refl _⟩ dX6_isMutualZugzwang_27 rfl v.2 (fun r8 h7 v => ?_)
      refine zg_ineg (q := 31) C dX6_isMutualZugzwang_30 rfl ?_
      refine zg_icmp_ge (t := 38) (q := 34) C dX6_isMutualZugzwang_31 (by decide) rfl (fun c => ?_) (fun c => ?_)
      · have v := v.1 c
        refine zg_iconst (v := 0) (q := 39) C dX6_isMutualZugzwang_38 (by decide) rfl ?_
        exact zg_zret C rfl dX6_isMutualZugzwang_39 ⟨Nat.le_refl _, Nat.le_refl _⟩ v.1 ⟨_, rfl, v.2⟩
      · have v := v.2 c
        refine zg_iconst (v := 1) (q := 35) C dX6_isMutualZugzwang_34 (by decide) rfl ?_
        refine zg_goto (t := 39) C dX6_isMutualZugzwang_35 (by decide) ?_
        exact zg_zret C rfl dX6_isMutualZugzwang_39 ⟨Nat.le_refl _, Nat.le_refl _⟩ v.1 ⟨_, rfl, v.2⟩
theorem rnX6_isMutualZugzwang {E : Wd} {d : Nat} {a0 : Nat} {x1 : Int32} {h : Hp} {Q : Int32 → Hp → Prop} (k : vcX6_isMutualZugzwang_0 E d a0 x1 h Q) : OkI E YX6_isMutualZugzwang (d + 1) [.ref a0, .int x1] h Q :=
  zz_body2 (r := 0) mX6_isMutualZugzwang (zc_a (zc_i zc_n)) (Nat.le_of_ble_eq_true rfl) (fun X C => zsX6_isMutualZugzwang_0 C a0 x1 h k)
def vcX6_mutualZugzwangs_0 (E : Wd) (d : Nat) (K4 : Nat → Int32 → Int32 → Hp → Prop) (a0 : Nat) (h : Hp) (Q : Int32 → Hp → Prop) : Prop :=
  K4 a0 0 0 h
def vcX6_mutualZugzwangs_4 (E : Wd) (d : Nat) (K4 : Nat → Int32 → Int32 → Hp → Prop) (a0 : Nat) (x1 : Int32) (x2 : Int32) (h : Hp) (Q : Int32 → Hp → Prop) : Prop :=
  okI h a0 6 12 ∧ ((fI h a0 12) ≤ x2 → Q x1 h) ∧ (¬ (fI h a0 12) ≤ x2 → isO h a0 6 ∧ OkI E YX6_isMutualZugzwang d [.ref a0, .int x2] h (fun r2 h1 => (r2 = (0 : Int32) → K4 a0 x1 (x2 + 2) h1) ∧ (¬ r2 = (0 : Int32) → K4 a0 (x1 + 1) (x2 + 2) h1)))
def zkX6_mutualZugzwangs_4 (E : Wd) (X : Mx) : Nat → Int32 → Int32 → Hp → Prop := fun a0 x1 x2 h => GG E X 3 0 0 4 [some (.ref a0), some (.int x1), some (.int x2)] [] h
set_option maxRecDepth 100000 in
set_option maxHeartbeats 4000000 in
theorem zsX6_mutualZugzwangs_0 {E : Wd} {X : Mx} {d : Nat} {Q : Int32 → Hp → Prop} (C : zz_C E X YX6_mutualZugzwangs (d + 1) 0 0 (fun r h' => ∃ x : Int32, r = some (.int x) ∧ Q x h')) (a0 : Nat) (h : Hp) (v : vcX6_mutualZugzwangs_0 E d (zkX6_mutualZugzwangs_4 E X) a0 h Q) : GG E X 3 0 0 0 [some (.ref a0), none, none] [] h := by
  refine zg_iconst (v := 0) (q := 1) C dX6_mutualZugzwangs_0 (by decide) rfl ?_
  refine zg_istore_n (q := 2) C dX6_mutualZugzwangs_1 (by decide) rfl ?_
  refine zg_iconst (v := 0) (q := 3) C dX6_mutualZugzwangs_2 (by decide) rfl ?_
  refine zg_istore_n (q := 4) C dX6_mutualZugzwangs_3 (by decide) rfl ?_
  exact zg_mask [true, true, true] v
set_option maxRecDepth 100000 in
set_option maxHeartbeats 4000000 in
theorem zsX6_mutualZugzwangs_4 {E : Wd} {X : Mx} {d : Nat} {Q : Int32 → Hp → Prop} (C : zz_C E X YX6_mutualZugzwangs (d + 1) 0 0 (fun r h' => ∃ x : Int32, r = some (.int x) ∧ Q x h')) (a0 : Nat) (x1 : Int32) (x2 : Int32) (h : Hp) (v : vcX6_mutualZugzwangs_4 E d (zkX6_mutualZugzwangs_4 E X) a0 x1 x2 h Q) : GG E X 3 0 0 4 [some (.ref a0), some (.int x1), some (.int x2)] [] h := by
  refine zg_iload_n (q := 5) C dX6_mutualZugzwangs_4 rfl rfl ?_
  refine zg_aload_n (q := 6) C dX6_mutualZugzwangs_5 rfl rfl ?_
  refine zg_get (j := 12) (q := 9) C bX6 (by decide) lkX6_62 dX6_mutualZugzwangs_6 rfl (okI.get v.1) ?_
  have v := v.2
  refine zg_icmp_ge (t := 29) (q := 12) C dX6_mutualZugzwangs_9 (by decide) rfl (fun c => ?_) (fun c => ?_)
  · have v := v.1 c
    refine zg_iload_n (q := 30) C dX6_mutualZugzwangs_29 rfl rfl ?_
    exact zg_iret C rfl dX6_mutualZugzwangs_30 ⟨Nat.le_refl _, Nat.le_refl _⟩ ⟨_, rfl, v⟩
  · have v := v.2 c
    refine zg_aload_n (q := 13) C dX6_mutualZugzwangs_12 rfl rfl ?_
    refine zg_iload_n (q := 14) C dX6_mutualZugzwangs_13 rfl rfl ?_
    refine zg_cV1I (q := 17) C mX6_isMutualZugzwang vX6_isMutualZugzwang lmX6_192 rfl (bX6).1 v.1 (Nat.le_of_ble_eq_true rfl) ⟨Nat.le_refl _, Nat.le_refl _⟩ dX6_mutualZugzwangs_14 rfl v.2 (fun r2 h1 v => ?_)
    refine zg_if_eq (t := 23) (q := 20) C dX6_mutualZugzwangs_17 (by decide) rfl (fun c => ?_) (fun c => ?_)
    · have v := v.1 c
      refine zg_iinc (v := 2) (q := 26) C dX6_mutualZugzwangs_23 rfl (by decide) (by decide) rfl ?_
      refine zg_goto (t := 4) C dX6_mutualZugzwangs_26 (by decide) ?_
      exact zg_mask [true, true, true] v
    · have v := v.2 c
      refine zg_iinc (v := 1) (q := 23) C dX6_mutualZugzwangs_20 rfl (by decide) (by decide) rfl ?_
      refine zg_iinc (v := 2) (q := 26) C dX6_mutualZugzwangs_23 rfl (by decide) (by decide) rfl ?_
      refine zg_goto (t := 4) C dX6_mutualZugzwangs_26 (by decide) ?_
      exact zg_mask [true, true, true] v
theorem rnX6_mutualZugzwangs {E : Wd} {d : Nat} {a0 : Nat} {h : Hp} {Q : Int32 → Hp → Prop} (k : ∀ (K4 : Nat → Int32 → Int32 → Hp → Prop),(∀ (a0 : Nat) (x1 : Int32) (x2 : Int32) h, vcX6_mutualZugzwangs_4 E d K4 a0 x1 x2 h Q → K4 a0 x1 x2 h) → vcX6_mutualZugzwangs_0 E d K4 a0 h Q) : OkI E YX6_mutualZugzwangs (d + 1) [.ref a0] h Q :=
  zz_body2 (r := 2) mX6_mutualZugzwangs (zc_a zc_n) (Nat.le_of_ble_eq_true rfl) (fun X C => zsX6_mutualZugzwangs_0 C a0 h (k (zkX6_mutualZugzwangs_4 E X) (fun a0 x1 x2 h v => zsX6_mutualZugzwangs_4 C a0 x1 x2 h v)))
def vcX6_mutualZugzwang_0 (E : Wd) (d : Nat) (K4 : Nat → Int32 → Int32 → Hp → Prop) (a0 : Nat) (x1 : Int32) (h : Hp) (Q : Int32 → Hp → Prop) : Prop :=
  K4 a0 x1 0 h
def vcX6_mutualZugzwang_4 (E : Wd) (d : Nat) (K4 : Nat → Int32 → Int32 → Hp → Prop) (a0 : Nat) (x2 : Int32) (x3 : Int32) (h : Hp) (Q : Int32 → Hp → Prop) : Prop :=
  okI h a0 6 12 ∧ ((fI h a0 12) ≤ x3 → Q ((-1)) h) ∧ (¬ (fI h a0 12) ≤ x3 → isO h a0 6 ∧ OkI E YX6_isMutualZugzwang d [.ref a0, .int x3] h (fun r2 h1 => (¬ r2 = (0 : Int32) → (¬ x2 = (0 : Int32) → K4 a0 (x2 + (-1)) (x3 + 2) h1) ∧ (x2 = (0 : Int32) → Q x3 h1)) ∧ (r2 = (0 : Int32) → K4 a0 x2 (x3 + 2) h1)))
def zkX6_mutualZugzwang_4 (E : Wd) (X : Mx) : Nat → Int32 → Int32 → Hp → Prop := fun a0 x2 x3 h => GG E X 4 0 0 4 [some (.ref a0), none, some (.int x2), some (.int x3)] [] h
set_option maxRecDepth 100000 in
set_option maxHeartbeats 4000000 in
theorem zsX6_mutualZugzwang_0 {E : Wd} {X : Mx} {d : Nat} {Q : Int32 → Hp → Prop} (C : zz_C E X YX6_mutualZugzwang (d + 1) 0 0 (fun r h' => ∃ x : Int32, r = some (.int x) ∧ Q x h')) (a0 : Nat) (x1 : Int32) (h : Hp) (v : vcX6_mutualZugzwang_0 E d (zkX6_mutualZugzwang_4 E X) a0 x1 h Q) : GG E X 4 0 0 0 [some (.ref a0), some (.int x1), none, none] [] h := by
  refine zg_iload_n (q := 1) C dX6_mutualZugzwang_0 rfl rfl ?_
  refine zg_istore_n (q := 2) C dX6_mutualZugzwang_1 (by decide) rfl ?_
  refine zg_iconst (v := 0) (q := 3) C dX6_mutualZugzwang_2 (by decide) rfl ?_
  refine zg_istore_n (q := 4) C dX6_mutualZugzwang_3 (by decide) rfl ?_
  exact zg_mask [true, false, true, true] v
set_option maxRecDepth 100000 in
set_option maxHeartbeats 4000000 in
theorem zsX6_mutualZugzwang_4 {E : Wd} {X : Mx} {d : Nat} {Q : Int32 → Hp → Prop} (C : zz_C E X YX6_mutualZugzwang (d + 1) 0 0 (fun r h' => ∃ x : Int32, r = some (.int x) ∧ Q x h')) (a0 : Nat) (x2 : Int32) (x3 : Int32) (h : Hp) (v : vcX6_mutualZugzwang_4 E d (zkX6_mutualZugzwang_4 E X) a0 x2 x3 h Q) : GG E X 4 0 0 4 [some (.ref a0), none, some (.int x2), some (.int x3)] [] h := by
  refine zg_iload_n (q := 5) C dX6_mutualZugzwang_4 rfl rfl ?_
  refine zg_aload_n (q := 6) C dX6_mutualZugzwang_5 rfl rfl ?_
  refine zg_get (j := 12) (q := 9) C bX6 (by decide) lkX6_62 dX6_mutualZugzwang_6 rfl (okI.get v.1) ?_
  have v := v.2
  refine zg_icmp_ge (t := 38) (q := 12) C dX6_mutualZugzwang_9 (by decide) rfl (fun c => ?_) (fun c => ?_)
  · have v := v.1 c
    refine zg_iconst (v := (-1)) (q := 39) C dX6_mutualZugzwang_38 (by decide) rfl ?_
    exact zg_iret C rfl dX6_mutualZugzwang_39 ⟨Nat.le_refl _, Nat.le_refl _⟩ ⟨_, rfl, v⟩
  · have v := v.2 c
    refine zg_aload_n (q := 13) C dX6_mutualZugzwang_12 rfl rfl ?_
    refine zg_iload_n (q := 14) C dX6_mutualZugzwang_13 rfl rfl ?_
    refine zg_cV1I (q := 17) C mX6_isMutualZugzwang vX6_isMutualZugzwang lmX6_192 rfl (bX6).1 v.1 (Nat.le_of_ble_eq_true rfl) ⟨Nat.le_refl _, Nat.le_refl _⟩ dX6_mutualZugzwang_14 rfl v.2 (fun r2 h1 v => ?_)
    refine zg_if_ne (t := 23) (q := 20) C dX6_mutualZugzwang_17 (by decide) rfl (fun c => ?_) (fun c => ?_)
    · have v := v.1 c
      refine zg_iload_n (q := 24) C dX6_mutualZugzwang_23 rfl rfl ?_
      refine zg_if_ne (t := 29) (q := 27) C dX6_mutualZugzwang_24 (by decide) rfl (fun c => ?_) (fun c => ?_)
      · have v := v.1 c
        refine zg_iinc (v := (-1)) (q := 32) C dX6_mutualZugzwang_29 rfl (by decide) (by decide) rfl ?_
        refine zg_iinc (v := 2) (q := 35) C dX6_mutualZugzwang_32 rfl (by decide) (by decide) rfl ?_
        refine zg_goto (t := 4) C dX6_mutualZugzwang_35 (by decide) ?_
        exact zg_mask [true, false, true, true] v
      · have v := v.2 c
        refine zg_iload_n (q := 28) C dX6_mutualZugzwang_27 rfl rfl ?_
        exact zg_iret C rfl dX6_mutualZugzwang_28 ⟨Nat.le_refl _, Nat.le_refl _⟩ ⟨_, rfl, v⟩
    · have v := v.2 c
      refine zg_goto (t := 32) C dX6_mutualZugzwang_20 (by decide) ?_
      refine zg_iinc (v := 2) (q := 35) C dX6_mutualZugzwang_32 rfl (by decide) (by decide) rfl ?_
      refine zg_goto (t := 4) C dX6_mutualZugzwang_35 (by decide) ?_
      exact zg_mask [true, false, true, true] v
theorem rnX6_mutualZugzwang {E : Wd} {d : Nat} {a0 : Nat} {x1 : Int32} {h : Hp} {Q : Int32 → Hp → Prop} (k : ∀ (K4 : Nat → Int32 → Int32 → Hp → Prop),(∀ (a0 : Nat) (x2 : Int32) (x3 : Int32) h, vcX6_mutualZugzwang_4 E d K4 a0 x2 x3 h Q → K4 a0 x2 x3 h) → vcX6_mutualZugzwang_0 E d K4 a0 x1 h Q) : OkI E YX6_mutualZugzwang (d + 1) [.ref a0, .int x1] h Q :=
  zz_body2 (r := 2) mX6_mutualZugzwang (zc_a (zc_i zc_n)) (Nat.le_of_ble_eq_true rfl) (fun X C => zsX6_mutualZugzwang_0 C a0 x1 h (k (zkX6_mutualZugzwang_4 E X) (fun a0 x2 x3 h v => zsX6_mutualZugzwang_4 C a0 x2 x3 h v)))
def vcX6_unlikeImages_0 (E : Wd) (d : Nat) (K4 : Nat → Int32 → Int32 → Int32 → Hp → Prop) (a0 : Nat) (x1 : Int32) (h : Hp) (Q : Int32 → Hp → Prop) : Prop :=
  K4 a0 x1 0 0 h
def vcX6_unlikeImages_71 (E : Wd) (d : Nat) (K4 : Nat → Int32 → Int32 → Int32 → Hp → Prop) (a0 : Nat) (x1 : Int32) (x2 : Int32) (x3 : Int32) (x4 : Int32) (s0 : Int32) (h : Hp) (Q : Int32 → Hp → Prop) : Prop :=
  isO h a0 6 ∧ OkI E YX6_valueOf d [.ref a0, .int x4] h (fun r2 h1 => isO h1 a0 6 ∧ OkI E YX6_valueOf d [.ref a0, .int x1] h1 (fun r4 h3 => (¬ r2 = r4 → K4 a0 x1 (x2 + 1) (x3 + 1) h3) ∧ (r2 = r4 → (¬ s0 = (0 : Int32) → K4 a0 x1 x2 (x3 + 1) h3) ∧ (s0 = (0 : Int32) → K4 a0 x1 (x2 + 1) (x3 + 1) h3))))
def vcX6_unlikeImages_66 (E : Wd) (d : Nat) (K4 : Nat → Int32 → Int32 → Int32 → Hp → Prop) (a0 : Nat) (x1 : Int32) (x2 : Int32) (x3 : Int32) (x4 : Int32) (h : Hp) (Q : Int32 → Hp → Prop) : Prop :=
  vcX6_unlikeImages_71 E d K4 a0 x1 x2 x3 x4 1 h Q
def vcX6_unlikeImages_4 (E : Wd) (d : Nat) (K4 : Nat → Int32 → Int32 → Int32 → Hp → Prop) (a0 : Nat) (x1 : Int32) (x2 : Int32) (x3 : Int32) (h : Hp) (Q : Int32 → Hp → Prop) : Prop :=
  okA h a0 6 9 ∧ okI h (fA h a0 9) 5 2 ∧ ((fI h (fA h a0 9) 2) ≤ x3 → Q x2 h) ∧ (¬ (fI h (fA h a0 9) 2) ≤ x3 → okA h a0 6 9 ∧ isO h (fA h a0 9) 5 ∧ OkI E YX5_isRepeated d [.ref (fA h a0 9), .int x1, .int x3] h (fun r2 h1 => (r2 = (0 : Int32) → okA h1 a0 6 9 ∧ isO h1 (fA h1 a0 9) 5 ∧ OkI E YX5_imageOf d [.ref (fA h1 a0 9), .int x1, .int x3] h1 (fun r4 h3 => OkI E YX6_searched d [.ref a0, .int r4, .int 2] h3 (fun r6 h5 => (r6 = (0 : Int32) → vcX6_unlikeImages_66 E d K4 a0 x1 x2 x3 r4 h5 Q) ∧ (¬ r6 = (0 : Int32) → isO h5 a0 6 ∧ OkI E YX6_valueOf d [.ref a0, .int r4] h5 (fun r8 h7 => (¬ r6 = r8 → vcX6_unlikeImages_71 E d K4 a0 x1 x2 x3 r4 0 h7 Q) ∧ (r6 = r8 → vcX6_unlikeImages_66 E d K4 a0 x1 x2 x3 r4 h7 Q)))))) ∧ (¬ r2 = (0 : Int32) → K4 a0 x1 x2 (x3 + 1) h1)))
def zkX6_unlikeImages_4 (E : Wd) (X : Mx) : Nat → Int32 → Int32 → Int32 → Hp → Prop := fun a0 x1 x2 x3 h => GG E X 7 0 0 4 [some (.ref a0), some (.int x1), some (.int x2), some (.int x3), none, none, none] [] h
set_option maxRecDepth 100000 in
set_option maxHeartbeats 4000000 in
theorem zsX6_unlikeImages_0 {E : Wd} {X : Mx} {d : Nat} {Q : Int32 → Hp → Prop} (C : zz_C E X YX6_unlikeImages (d + 1) 0 0 (fun r h' => ∃ x : Int32, r = some (.int x) ∧ Q x h')) (a0 : Nat) (x1 : Int32) (h : Hp) (v : vcX6_unlikeImages_0 E d (zkX6_unlikeImages_4 E X) a0 x1 h Q) : GG E X 7 0 0 0 [some (.ref a0), some (.int x1), none, none, none, none, none] [] h := by
  refine zg_iconst (v := 0) (q := 1) C dX6_unlikeImages_0 (by decide) rfl ?_
  refine zg_istore_n (q := 2) C dX6_unlikeImages_1 (by decide) rfl ?_
  refine zg_iconst (v := 0) (q := 3) C dX6_unlikeImages_2 (by decide) rfl ?_
  refine zg_istore_n (q := 4) C dX6_unlikeImages_3 (by decide) rfl ?_
  exact zg_mask [true, true, true, true, false, false, false] v
set_option maxRecDepth 100000 in
set_option maxHeartbeats 4000000 in
theorem zsX6_unlikeImages_71 {E : Wd} {X : Mx} {d : Nat} {Q : Int32 → Hp → Prop} (C : zz_C E X YX6_unlikeImages (d + 1) 0 0 (fun r h' => ∃ x : Int32, r = some (.int x) ∧ Q x h')) (a0 : Nat) (x1 : Int32) (x2 : Int32) (x3 : Int32) (x4 : Int32) (s0 : Int32) (h : Hp) (v : vcX6_unlikeImages_71 E d (zkX6_unlikeImages_4 E X) a0 x1 x2 x3 x4 s0 h Q) : GG E X 7 0 0 71 [some (.ref a0), some (.int x1), some (.int x2), some (.int x3), some (.int x4), none, none] [.int s0] h := by
  refine zg_istore (q := 73) C dX6_unlikeImages_71 (by decide) rfl ?_
  refine zg_aload_n (q := 74) C dX6_unlikeImages_73 rfl rfl ?_
  refine zg_iload (q := 76) C dX6_unlikeImages_74 rfl rfl ?_
  refine zg_cV1I (q := 79) C mX6_valueOf vX6_valueOf lmX6_144 rfl (bX6).1 v.1 (Nat.le_of_ble_eq_true rfl) ⟨Nat.le_refl _, Nat.le_refl _⟩ dX6_unlikeImages_76 rfl v.2 (fun r2 h1 v => ?_)
  refine zg_aload_n (q := 80) C dX6_unlikeImages_79 rfl rfl ?_
  refine zg_iload_n (q := 81) C dX6_unlikeImages_80 rfl rfl ?_
  refine zg_cV1I (q := 84) C mX6_valueOf vX6_valueOf lmX6_144 rfl (bX6).1 v.1 (Nat.le_of_ble_eq_true rfl) ⟨Nat.le_refl _, Nat.le_refl _⟩ dX6_unlikeImages_81 rfl v.2 (fun r4 h3 v => ?_)
  refine zg_icmp_ne (t := 92) (q := 87) C dX6_unlikeImages_84 (by decide) rfl (fun c => ?_) (fun c => ?_)
  · have v := v.1 c
    refine zg_iinc (v := 1) (q := 95) C dX6_unlikeImages_92 rfl (by decide) (by decide) rfl ?_
    refine zg_iinc (v := 1) (q := 98) C dX6_unlikeImages_95 rfl (by decide) (by decide) rfl ?_
    refine zg_goto (t := 4) C dX6_unlikeImages_98 (by decide) ?_
    exact zg_mask [true, true, true, true, false, false, false] v
  · have v := v.2 c
    refine zg_iload (q := 89) C dX6_unlikeImages_87 rfl rfl ?_
    refine zg_if_ne (t := 95) (q := 92) C dX6_unlikeImages_89 (by decide) rfl (fun c => ?_) (fun c => ?_)
    · have v := v.1 c
      refine zg_iinc (v := 1) (q := 98) C dX6_unlikeImages_95 rfl (by decide) (by decide) rfl ?_
      refine zg_goto (t := 4) C dX6_unlikeImages_98 (by decide) ?_
      exact zg_mask [true, true, true, true, false, false, false] v
    · have v := v.2 c
      refine zg_iinc (v := 1) (q := 95) C dX6_unlikeImages_92 rfl (by decide) (by decide) rfl ?_
      refine zg_iinc (v := 1) (q := 98) C dX6_unlikeImages_95 rfl (by decide) (by decide) rfl ?_
      refine zg_goto (t := 4) C dX6_unlikeImages_98 (by decide) ?_
      exact zg_mask [true, true, true, true, false, false, false] v
set_option maxRecDepth 100000 in
set_option maxHeartbeats 4000000 in
theorem zsX6_unlikeImages_66 {E : Wd} {X : Mx} {d : Nat} {Q : Int32 → Hp → Prop} (C : zz_C E X YX6_unlikeImages (d + 1) 0 0 (fun r h' => ∃ x : Int32, r = some (.int x) ∧ Q x h')) (a0 : Nat) (x1 : Int32) (x2 : Int32) (x3 : Int32) (x4 : Int32) (h : Hp) (v : vcX6_unlikeImages_66 E d (zkX6_unlikeImages_4 E X) a0 x1 x2 x3 x4 h Q) : GG E X 7 0 0 66 [some (.ref a0), some (.int x1), some (.int x2), some (.int x3), some (.int x4), none, none] [] h := by
  refine zg_iconst (v := 1) (q := 67) C dX6_unlikeImages_66 (by decide) rfl ?_
  refine zg_goto (t := 71) C dX6_unlikeImages_67 (by decide) ?_
  exact zg_mask [true, true, true, true, true, false, false] (zsX6_unlikeImages_71 C _ _ _ _ _ _ _ v)
set_option maxRecDepth 100000 in
set_option maxHeartbeats 4000000 in
theorem zsX6_unlikeImages_4 {E : Wd} {X : Mx} {d : Nat} {Q : Int32 → Hp → Prop} (C : zz_C E X YX6_unlikeImages (d + 1) 0 0 (fun r h' => ∃ x : Int32, r = some (.int x) ∧ Q x h')) (a0 : Nat) (x1 : Int32) (x2 : Int32) (x3 : Int32) (h : Hp) (v : vcX6_unlikeImages_4 E d (zkX6_unlikeImages_4 E X) a0 x1 x2 x3 h Q) : GG E X 7 0 0 4 [some (.ref a0), some (.int x1), some (.int x2), some (.int x3), none, none, none] [] h := by
  refine zg_iload_n (q := 5) C dX6_unlikeImages_4 rfl rfl ?_
  refine zg_aload_n (q := 6) C dX6_unlikeImages_5 rfl rfl ?_
  refine zg_get (j := 9) (q := 9) C bX6 (by decide) lkX6_45 dX6_unlikeImages_6 rfl (okA.get v.1) ?_
  have v := v.2
  refine zg_getN (j := 2) (q := 12) C bX5 (by decide) lkX6_195 dX6_unlikeImages_9 rfl (okI.get v.1) ?_
  have v := v.2
  refine zg_icmp_ge (t := 101) (q := 15) C dX6_unlikeImages_12 (by decide) rfl (fun c => ?_) (fun c => ?_)
  · have v := v.1 c
    refine zg_iload_n (q := 102) C dX6_unlikeImages_101 rfl rfl ?_
    exact zg_iret C rfl dX6_unlikeImages_102 ⟨Nat.le_refl _, Nat.le_refl _⟩ ⟨_, rfl, v⟩
  · have v := v.2 c
    refine zg_aload_n (q := 16) C dX6_unlikeImages_15 rfl rfl ?_
    refine zg_get (j := 9) (q := 19) C bX6 (by decide) lkX6_45 dX6_unlikeImages_16 rfl (okA.get v.1) ?_
    have v := v.2
    refine zg_iload_n (q := 20) C dX6_unlikeImages_19 rfl rfl ?_
    refine zg_iload_n (q := 21) C dX6_unlikeImages_20 rfl rfl ?_
    refine zg_cV2I (q := 24) C mX5_isRepeated vX5_isRepeated lmX6_198 rfl (bX5).1 v.1 (Nat.le_of_ble_eq_true rfl) ⟨Nat.le_refl _, Nat.le_refl _⟩ dX6_unlikeImages_21 rfl v.2 (fun r2 h1 v => ?_)
    refine zg_if_eq (t := 30) (q := 27) C dX6_unlikeImages_24 (by decide) rfl (fun c => ?_) (fun c => ?_)
    · have v := v.1 c
      refine zg_aload_n (q := 31) C dX6_unlikeImages_30 rfl rfl ?_
      refine zg_get (j := 9) (q := 34) C bX6 (by decide) lkX6_45 dX6_unlikeImages_31 rfl (okA.get v.1) ?_
      have v := v.2
      refine zg_iload_n (q := 35) C dX6_unlikeImages_34 rfl rfl ?_
      refine zg_iload_n (q := 36) C dX6_unlikeImages_35 rfl rfl ?_
      refine zg_cV2I (q := 39) C mX5_imageOf vX5_imageOf lmX6_201 rfl (bX5).1 v.1 (Nat.le_of_ble_eq_true rfl) ⟨Nat.le_refl _, Nat.le_refl _⟩ dX6_unlikeImages_36 rfl v.2 (fun r4 h3 v => ?_)
      refine zg_istore (q := 41) C dX6_unlikeImages_39 (by decide) rfl ?_
      refine zg_aload_n (q := 42) C dX6_unlikeImages_41 rfl rfl ?_
      refine zg_iload (q := 44) C dX6_unlikeImages_42 rfl rfl ?_
      refine zg_iconst (v := 2) (q := 45) C dX6_unlikeImages_44 (by decide) rfl ?_
      refine zg_cS3I (q := 48) C mX6_searched tX6_searched lmX6_178 rfl (Nat.le_of_ble_eq_true rfl) ⟨Nat.le_refl _, Nat.le_refl _⟩ dX6_unlikeImages_45 rfl v (fun r6 h5 v => ?_)
      refine zg_istore (q := 50) C dX6_unlikeImages_48 (by decide) rfl ?_
      refine zg_iload (q := 52) C dX6_unlikeImages_50 rfl rfl ?_
      refine zg_if_eq (t := 66) (q := 55) C dX6_unlikeImages_52 (by decide) rfl (fun c => ?_) (fun c => ?_)
      · have v := v.1 c
        exact zg_mask [true, true, true, true, true, false, false] (zsX6_unlikeImages_66 C _ _ _ _ _ _ v)
      · have v := v.2 c
        refine zg_iload (q := 57) C dX6_unlikeImages_55 rfl rfl ?_
        refine zg_aload_n (q := 58) C dX6_unlikeImages_57 rfl rfl ?_
        refine zg_iload (q := 60) C dX6_unlikeImages_58 rfl rfl ?_
        refine zg_cV1I (q := 63) C mX6_valueOf vX6_valueOf lmX6_144 rfl (bX6).1 v.1 (Nat.le_of_ble_eq_true rfl) ⟨Nat.le_refl _, Nat.le_refl _⟩ dX6_unlikeImages_60 rfl v.2 (fun r8 h7 v => ?_)
        refine zg_icmp_ne (t := 70) (q := 66) C dX6_unlikeImages_63 (by decide) rfl (fun c => ?_) (fun c => ?_)
        · have v := v.1 c
          refine zg_iconst (v := 0) (q := 71) C dX6_unlikeImages_70 (by decide) rfl ?_
          exact zg_mask [true, true, true, true, true, false, false] (zsX6_unlikeImages_71 C _ _ _ _ _ _ _ v)
        · have v := v.2 c
          exact zg_mask [true, true, true, true, true, false, false] (zsX6_unlikeImages_66 C _ _ _ _ _ _ v)
    · have v := v.2 c
      refine zg_goto (t := 95) C dX6_unlikeImages_27 (by decide) ?_
      refine zg_iinc (v := 1) (q := 98) C dX6_unlikeImages_95 rfl (by decide) (by decide) rfl ?_
      refine zg_goto (t := 4) C dX6_unlikeImages_98 (by decide) ?_
      exact zg_mask [true, true, true, true, false, false, false] v
theorem rnX6_unlikeImages {E : Wd} {d : Nat} {a0 : Nat} {x1 : Int32} {h : Hp} {Q : Int32 → Hp → Prop} (k : ∀ (K4 : Nat → Int32 → Int32 → Int32 → Hp → Prop),(∀ (a0 : Nat) (x1 : Int32) (x2 : Int32) (x3 : Int32) h, vcX6_unlikeImages_4 E d K4 a0 x1 x2 x3 h Q → K4 a0 x1 x2 x3 h) → vcX6_unlikeImages_0 E d K4 a0 x1 h Q) : OkI E YX6_unlikeImages (d + 1) [.ref a0, .int x1] h Q :=
  zz_body2 (r := 5) mX6_unlikeImages (zc_a (zc_i zc_n)) (Nat.le_of_ble_eq_true rfl) (fun X C => zsX6_unlikeImages_0 C a0 x1 h (k (zkX6_unlikeImages_4 E X) (fun a0 x1 x2 x3 h v => zsX6_unlikeImages_4 C a0 x1 x2 x3 h v)))
