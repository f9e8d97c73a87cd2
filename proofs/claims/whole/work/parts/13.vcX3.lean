def vcX3_init_0 (E : Wd) (d : Nat) (mc ms : Nat) (a0 : Nat) (a1 : Nat) (x2 : Int32) (h : Hp) (Q : Hp → Prop) : Prop :=
  okP h a0 3 9 ∧ ∀ h1, h1 = pF h a0 9 (.int ((-5))) → (1 ≤ mc ∧ 3 ≤ ms) ∧ ∀ h2, h2 = nA E h1 0 3 → okP h2 a0 3 10 ∧ ∀ h4, h4 = pF h2 a0 10 (.ref (h1.1)) → okP h4 a0 3 0 ∧ ∀ h5, h5 = pF h4 a0 0 (.ref a1) → okL E h5 a1 0 ∧ okP h5 a0 3 1 ∧ ∀ h6, h6 = pF h5 a0 1 (.int (if (lA h5 a1) < x2 then (lA h5 a1) else x2)) → Q h6
set_option maxRecDepth 100000 in
set_option maxHeartbeats 4000000 in
theorem zsX3_init_0 {E : Wd} {X : Mx} {d mc ms : Nat} {Q : Hp → Prop} (C : zz_C E X YX3_init (d + 1) mc ms (fun r h' => r = none ∧ Q h')) (a0 : Nat) (a1 : Nat) (x2 : Int32) (h : Hp) (v : vcX3_init_0 E d mc ms a0 a1 x2 h Q) : GG E X 3 0 0 0 [some (.ref a0), some (.ref a1), some (.int x2)] [] h := by
  refine zg_aload_n (q := 1) C dX3_init_0 rfl rfl ?_
  refine zg_objInit (q := 4) C oiX3 rfl (Nat.le_add_left _ _) (Nat.le_of_ble_eq_true rfl) dX3_init_1 rfl ?_
  refine zg_aload_n (q := 5) C dX3_init_4 rfl rfl ?_
  refine zg_bipush (v := (-5)) (q := 7) C dX3_init_5 (by decide) rfl ?_
  refine zg_put (j := 9) (q := 10) C bX3 (by decide) lkX3_9 dX3_init_7 rfl rfl v.1 rfl rfl ?_
  have v := v.2 _ rfl
  refine zg_aload_n (q := 11) C dX3_init_10 rfl rfl ?_
  refine zg_iconst (v := 3) (q := 12) C dX3_init_11 (by decide) rfl ?_
  refine zg_newI (m := 3) (q := 14) C ar0 dX3_init_12 rfl (by decide) (by decide) (by decide) v.1 ?_
  have c3 := v.1
  have v := v.2 _ rfl
  refine zg_putF (j := 10) (q := 17) C bX3 (by decide) lkX3_15 dX3_init_14 rfl rfl rfl rfl v.1 rfl rfl ?_
  have v := v.2 _ rfl
  refine zg_aload_n (q := 18) C dX3_init_17 rfl rfl ?_
  refine zg_aload_n (q := 19) C dX3_init_18 rfl rfl ?_
  refine zg_putF (j := 0) (q := 22) C bX3 (by decide) lkX3_19 dX3_init_19 rfl rfl rfl rfl v.1 rfl rfl ?_
  have v := v.2 _ rfl
  refine zg_aload_n (q := 23) C dX3_init_22 rfl rfl ?_
  refine zg_iload_n (q := 24) C dX3_init_23 rfl rfl ?_
  refine zg_aload_n (q := 25) C dX3_init_24 rfl rfl ?_
  refine zg_alen (t := 0) (q := 26) C (by decide) dX3_init_25 rfl v.1 ?_
  have v := v.2
  refine zg_min (q := 29) C maX3_22 rfl (Nat.le_add_left _ _) (Nat.le_of_ble_eq_true rfl) c3 dX3_init_26 rfl ?_
  refine zg_putF (j := 1) (q := 32) C bX3 (by decide) lkX3_28 dX3_init_29 rfl rfl rfl rfl v.1 rfl rfl ?_
  have v := v.2 _ rfl
  exact zg_vret C rfl dX3_init_32 c3 ⟨rfl, v⟩
theorem rnX3_init {E : Wd} {d mc ms : Nat} {a0 : Nat} {a1 : Nat} {x2 : Int32} {h : Hp} {Q : Hp → Prop} (k : vcX3_init_0 E d mc ms a0 a1 x2 h Q) : OkW E YX3_init (d + 1) mc ms [.ref a0, .ref a1, .int x2] h Q :=
  zz_body2 (r := 0) mX3_init (zc_a (zc_a (zc_i zc_n))) (Nat.le_of_ble_eq_true rfl) (fun X C => zsX3_init_0 C a0 a1 x2 h k)
def vcX3_isGame_0 (E : Wd) (d : Nat) (K53 : Nat → Int32 → Hp → Prop) (a0 : Nat) (h : Hp) (Q : Int32 → Hp → Prop) : Prop :=
  isO h a0 3 ∧ OkI E YX3_readSize d [.ref a0] h (fun r2 h1 => (r2 = (0 : Int32) → mB 0 ∧ Q 0 h1) ∧ (¬ r2 = (0 : Int32) → isO h1 a0 3 ∧ OkI E YX3_take d [.ref a0, .int 59] h1 (fun r4 h3 => (r4 = (0 : Int32) → mB 0 ∧ Q 0 h3) ∧ (¬ r4 = (0 : Int32) → isO h3 a0 3 ∧ OkI E YX3_readMen d [.ref a0] h3 (fun r6 h5 => (¬ r6 = (0 : Int32) → okI h5 a0 3 5 ∧ okP h5 a0 3 6 ∧ ∀ h7, h7 = pF h5 a0 6 (.int (fI h5 a0 5)) → isO h7 a0 3 ∧ OkI E YX3_take d [.ref a0, .int 45] h7 (fun r9 h8 => (r9 = (0 : Int32) → mB 0 ∧ Q 0 h8) ∧ (¬ r9 = (0 : Int32) → isO h8 a0 3 ∧ OkI E YX3_readMen d [.ref a0] h8 (fun r11 h10 => (¬ r11 = (0 : Int32) → K53 a0 0 h10) ∧ (r11 = (0 : Int32) → mB 0 ∧ Q 0 h10))))) ∧ (r6 = (0 : Int32) → mB 0 ∧ Q 0 h5))))))
def vcX3_isGame_94 (E : Wd) (d : Nat) (K53 : Nat → Int32 → Hp → Prop) (a0 : Nat) (h : Hp) (Q : Int32 → Hp → Prop) : Prop :=
  okI h a0 3 2 ∧ okI h a0 3 1 ∧ ((fI h a0 2) < (fI h a0 1) → mB 0 ∧ Q 0 h) ∧ (¬ (fI h a0 2) < (fI h a0 1) → mB 1 ∧ Q 1 h)
def vcX3_isGame_53 (E : Wd) (d : Nat) (K53 : Nat → Int32 → Hp → Prop) (a0 : Nat) (x1 : Int32) (h : Hp) (Q : Int32 → Hp → Prop) : Prop :=
  ((40 : Int32) ≤ x1 → vcX3_isGame_94 E d K53 a0 h Q) ∧ (¬ (40 : Int32) ≤ x1 → okI h a0 3 2 ∧ okI h a0 3 1 ∧ ((fI h a0 1) ≤ (fI h a0 2) → vcX3_isGame_94 E d K53 a0 h Q) ∧ (¬ (fI h a0 1) ≤ (fI h a0 2) → isO h a0 3 ∧ OkI E YX3_take d [.ref a0, .int 59] h (fun r2 h1 => (r2 = (0 : Int32) → mB 0 ∧ Q 0 h1) ∧ (¬ r2 = (0 : Int32) → isO h1 a0 3 ∧ OkI E YX3_readClause d [.ref a0] h1 (fun r4 h3 => (¬ r4 = (0 : Int32) → K53 a0 (x1 + 1) h3) ∧ (r4 = (0 : Int32) → mB 0 ∧ Q 0 h3))))))
def zkX3_isGame_53 (E : Wd) (X : Mx) : Nat → Int32 → Hp → Prop := fun a0 x1 h => GG E X 2 0 0 53 [some (.ref a0), some (.int x1)] [] h
set_option maxRecDepth 100000 in
set_option maxHeartbeats 4000000 in
theorem zsX3_isGame_0 {E : Wd} {X : Mx} {d : Nat} {Q : Int32 → Hp → Prop} (C : zz_C E X YX3_isGame (d + 1) 0 0 (fun r h' => ∃ x : Int32, r = some (.int x) ∧ Q x h')) (a0 : Nat) (h : Hp) (v : vcX3_isGame_0 E d (zkX3_isGame_53 E X) a0 h Q) : GG E X 2 0 0 0 [some (.ref a0), none] [] h := by
  refine zg_aload_n (q := 1) C dX3_isGame_0 rfl rfl ?_
  refine zg_cV0I (q := 4) C mX3_readSize vX3_readSize lmX3_31 rfl (bX3).1 v.1 (Nat.le_of_ble_eq_true rfl) ⟨Nat.le_refl _, Nat.le_refl _⟩ dX3_isGame_1 rfl v.2 (fun r2 h1 v => ?_)
  refine zg_if_eq (t := 23) (q := 7) C dX3_isGame_4 (by decide) rfl (fun c => ?_) (fun c => ?_)
  · have v := v.1 c
    refine zg_iconst (v := 0) (q := 24) C dX3_isGame_23 (by decide) rfl ?_
    exact zg_zret C rfl dX3_isGame_24 ⟨Nat.le_refl _, Nat.le_refl _⟩ v.1 ⟨_, rfl, v.2⟩
  · have v := v.2 c
    refine zg_aload_n (q := 8) C dX3_isGame_7 rfl rfl ?_
    refine zg_bipush (v := 59) (q := 10) C dX3_isGame_8 (by decide) rfl ?_
    refine zg_cV1I (q := 13) C mX3_take vX3_take lmX3_35 rfl (bX3).1 v.1 (Nat.le_of_ble_eq_true rfl) ⟨Nat.le_refl _, Nat.le_refl _⟩ dX3_isGame_10 rfl v.2 (fun r4 h3 v => ?_)
    refine zg_if_eq (t := 23) (q := 16) C dX3_isGame_13 (by decide) rfl (fun c => ?_) (fun c => ?_)
    · have v := v.1 c
      refine zg_iconst (v := 0) (q := 24) C dX3_isGame_23 (by decide) rfl ?_
      exact zg_zret C rfl dX3_isGame_24 ⟨Nat.le_refl _, Nat.le_refl _⟩ v.1 ⟨_, rfl, v.2⟩
    · have v := v.2 c
      refine zg_aload_n (q := 17) C dX3_isGame_16 rfl rfl ?_
      refine zg_cV0I (q := 20) C mX3_readMen vX3_readMen lmX3_39 rfl (bX3).1 v.1 (Nat.le_of_ble_eq_true rfl) ⟨Nat.le_refl _, Nat.le_refl _⟩ dX3_isGame_17 rfl v.2 (fun r6 h5 v => ?_)
      refine zg_if_ne (t := 25) (q := 23) C dX3_isGame_20 (by decide) rfl (fun c => ?_) (fun c => ?_)
      · have v := v.1 c
        refine zg_aload_n (q := 26) C dX3_isGame_25 rfl rfl ?_
        refine zg_aload_n (q := 27) C dX3_isGame_26 rfl rfl ?_
        refine zg_get (j := 5) (q := 30) C bX3 (by decide) lkX3_42 dX3_isGame_27 rfl (okI.get v.1) ?_
        have v := v.2
        refine zg_put (j := 6) (q := 33) C bX3 (by decide) lkX3_45 dX3_isGame_30 rfl rfl v.1 rfl rfl ?_
        have v := v.2 _ rfl
        refine zg_aload_n (q := 34) C dX3_isGame_33 rfl rfl ?_
        refine zg_bipush (v := 45) (q := 36) C dX3_isGame_34 (by decide) rfl ?_
        refine zg_cV1I (q := 39) C mX3_take vX3_take lmX3_35 rfl (bX3).1 v.1 (Nat.le_of_ble_eq_true rfl) ⟨Nat.le_refl _, Nat.le_refl _⟩ dX3_isGame_36 rfl v.2 (fun r9 h8 v => ?_)
        refine zg_if_eq (t := 49) (q := 42) C dX3_isGame_39 (by decide) rfl (fun c => ?_) (fun c => ?_)
        · have v := v.1 c
          refine zg_iconst (v := 0) (q := 50) C dX3_isGame_49 (by decide) rfl ?_
          exact zg_zret C rfl dX3_isGame_50 ⟨Nat.le_refl _, Nat.le_refl _⟩ v.1 ⟨_, rfl, v.2⟩
        · have v := v.2 c
          refine zg_aload_n (q := 43) C dX3_isGame_42 rfl rfl ?_
          refine zg_cV0I (q := 46) C mX3_readMen vX3_readMen lmX3_39 rfl (bX3).1 v.1 (Nat.le_of_ble_eq_true rfl) ⟨Nat.le_refl _, Nat.le_refl _⟩ dX3_isGame_43 rfl v.2 (fun r11 h10 v => ?_)
          refine zg_if_ne (t := 51) (q := 49) C dX3_isGame_46 (by decide) rfl (fun c => ?_) (fun c => ?_)
          · have v := v.1 c
            refine zg_iconst (v := 0) (q := 52) C dX3_isGame_51 (by decide) rfl ?_
            refine zg_istore_n (q := 53) C dX3_isGame_52 (by decide) rfl ?_
            exact zg_mask [true, true] v
          · have v := v.2 c
            refine zg_iconst (v := 0) (q := 50) C dX3_isGame_49 (by decide) rfl ?_
            exact zg_zret C rfl dX3_isGame_50 ⟨Nat.le_refl _, Nat.le_refl _⟩ v.1 ⟨_, rfl, v.2⟩
      · have v := v.2 c
        refine zg_iconst (v := 0) (q := 24) C dX3_isGame_23 (by decide) rfl ?_
        exact zg_zret C rfl dX3_isGame_24 ⟨Nat.le_refl _, Nat.le_refl _⟩ v.1 ⟨_, rfl, v.2⟩
set_option maxRecDepth 100000 in
set_option maxHeartbeats 4000000 in
theorem zsX3_isGame_94 {E : Wd} {X : Mx} {d : Nat} {Q : Int32 → Hp → Prop} (C : zz_C E X YX3_isGame (d + 1) 0 0 (fun r h' => ∃ x : Int32, r = some (.int x) ∧ Q x h')) (a0 : Nat) (h : Hp) (v : vcX3_isGame_94 E d (zkX3_isGame_53 E X) a0 h Q) : GG E X 2 0 0 94 [some (.ref a0), none] [] h := by
  refine zg_aload_n (q := 95) C dX3_isGame_94 rfl rfl ?_
  refine zg_get (j := 2) (q := 98) C bX3 (by decide) lkX3_48 dX3_isGame_95 rfl (okI.get v.1) ?_
  have v := v.2
  refine zg_aload_n (q := 99) C dX3_isGame_98 rfl rfl ?_
  refine zg_get (j := 1) (q := 102) C bX3 (by decide) lkX3_28 dX3_isGame_99 rfl (okI.get v.1) ?_
  have v := v.2
  refine zg_icmp_lt (t := 109) (q := 105) C dX3_isGame_102 (by decide) rfl (fun c => ?_) (fun c => ?_)
  · have v := v.1 c
    refine zg_iconst (v := 0) (q := 110) C dX3_isGame_109 (by decide) rfl ?_
    exact zg_zret C rfl dX3_isGame_110 ⟨Nat.le_refl _, Nat.le_refl _⟩ v.1 ⟨_, rfl, v.2⟩
  · have v := v.2 c
    refine zg_iconst (v := 1) (q := 106) C dX3_isGame_105 (by decide) rfl ?_
    refine zg_goto (t := 110) C dX3_isGame_106 (by decide) ?_
    exact zg_zret C rfl dX3_isGame_110 ⟨Nat.le_refl _, Nat.le_refl _⟩ v.1 ⟨_, rfl, v.2⟩
set_option maxRecDepth 100000 in
set_option maxHeartbeats 4000000 in
theorem zsX3_isGame_53 {E : Wd} {X : Mx} {d : Nat} {Q : Int32 → Hp → Prop} (C : zz_C E X YX3_isGame (d + 1) 0 0 (fun r h' => ∃ x : Int32, r = some (.int x) ∧ Q x h')) (a0 : Nat) (x1 : Int32) (h : Hp) (v : vcX3_isGame_53 E d (zkX3_isGame_53 E X) a0 x1 h Q) : GG E X 2 0 0 53 [some (.ref a0), some (.int x1)] [] h := by
  refine zg_iload_n (q := 54) C dX3_isGame_53 rfl rfl ?_
  refine zg_bipush (v := 40) (q := 56) C dX3_isGame_54 (by decide) rfl ?_
  refine zg_icmp_ge (t := 94) (q := 59) C dX3_isGame_56 (by decide) rfl (fun c => ?_) (fun c => ?_)
  · have v := v.1 c
    exact zg_mask [true, false] (zsX3_isGame_94 C _ _ v)
  · have v := v.2 c
    refine zg_aload_n (q := 60) C dX3_isGame_59 rfl rfl ?_
    refine zg_get (j := 2) (q := 63) C bX3 (by decide) lkX3_48 dX3_isGame_60 rfl (okI.get v.1) ?_
    have v := v.2
    refine zg_aload_n (q := 64) C dX3_isGame_63 rfl rfl ?_
    refine zg_get (j := 1) (q := 67) C bX3 (by decide) lkX3_28 dX3_isGame_64 rfl (okI.get v.1) ?_
    have v := v.2
    refine zg_icmp_ge (t := 94) (q := 70) C dX3_isGame_67 (by decide) rfl (fun c => ?_) (fun c => ?_)
    · have v := v.1 c
      exact zg_mask [true, false] (zsX3_isGame_94 C _ _ v)
    · have v := v.2 c
      refine zg_aload_n (q := 71) C dX3_isGame_70 rfl rfl ?_
      refine zg_bipush (v := 59) (q := 73) C dX3_isGame_71 (by decide) rfl ?_
      refine zg_cV1I (q := 76) C mX3_take vX3_take lmX3_35 rfl (bX3).1 v.1 (Nat.le_of_ble_eq_true rfl) ⟨Nat.le_refl _, Nat.le_refl _⟩ dX3_isGame_73 rfl v.2 (fun r2 h1 v => ?_)
      refine zg_if_eq (t := 86) (q := 79) C dX3_isGame_76 (by decide) rfl (fun c => ?_) (fun c => ?_)
      · have v := v.1 c
        refine zg_iconst (v := 0) (q := 87) C dX3_isGame_86 (by decide) rfl ?_
        exact zg_zret C rfl dX3_isGame_87 ⟨Nat.le_refl _, Nat.le_refl _⟩ v.1 ⟨_, rfl, v.2⟩
      · have v := v.2 c
        refine zg_aload_n (q := 80) C dX3_isGame_79 rfl rfl ?_
        refine zg_cV0I (q := 83) C mX3_readClause vX3_readClause lmX3_51 rfl (bX3).1 v.1 (Nat.le_of_ble_eq_true rfl) ⟨Nat.le_refl _, Nat.le_refl _⟩ dX3_isGame_80 rfl v.2 (fun r4 h3 v => ?_)
        refine zg_if_ne (t := 88) (q := 86) C dX3_isGame_83 (by decide) rfl (fun c => ?_) (fun c => ?_)
        · have v := v.1 c
          refine zg_iinc (v := 1) (q := 91) C dX3_isGame_88 rfl (by decide) (by decide) rfl ?_
          refine zg_goto (t := 53) C dX3_isGame_91 (by decide) ?_
          exact zg_mask [true, true] v
        · have v := v.2 c
          refine zg_iconst (v := 0) (q := 87) C dX3_isGame_86 (by decide) rfl ?_
          exact zg_zret C rfl dX3_isGame_87 ⟨Nat.le_refl _, Nat.le_refl _⟩ v.1 ⟨_, rfl, v.2⟩
theorem rnX3_isGame {E : Wd} {d : Nat} {a0 : Nat} {h : Hp} {Q : Int32 → Hp → Prop} (k : ∀ (K53 : Nat → Int32 → Hp → Prop),(∀ (a0 : Nat) (x1 : Int32) h, vcX3_isGame_53 E d K53 a0 x1 h Q → K53 a0 x1 h) → vcX3_isGame_0 E d K53 a0 h Q) : OkI E YX3_isGame (d + 1) [.ref a0] h Q :=
  zz_body2 (r := 1) mX3_isGame (zc_a zc_n) (Nat.le_of_ble_eq_true rfl) (fun X C => zsX3_isGame_0 C a0 h (k (zkX3_isGame_53 E X) (fun a0 x1 h v => zsX3_isGame_53 C a0 x1 h v)))
def vcX3_ahead_0 (E : Wd) (d : Nat) (a0 : Nat) (h : Hp) (Q : Int32 → Hp → Prop) : Prop :=
  okI h a0 3 2 ∧ ((fI h a0 2) < (0 : Int32) → Q ((-1)) h) ∧ (¬ (fI h a0 2) < (0 : Int32) → okI h a0 3 2 ∧ okI h a0 3 1 ∧ ((fI h a0 1) ≤ (fI h a0 2) → Q ((-1)) h) ∧ (¬ (fI h a0 1) ≤ (fI h a0 2) → okI h a0 3 2 ∧ okA h a0 3 0 ∧ okL E h (fA h a0 0) 0 ∧ ((lA h (fA h a0 0)) ≤ (fI h a0 2) → Q ((-1)) h) ∧ (¬ (lA h (fA h a0 0)) ≤ (fI h a0 2) → okA h a0 3 0 ∧ okI h a0 3 2 ∧ okR E h (fA h a0 0) 0 (fI h a0 2) ∧ Q (gA h (fA h a0 0) (fI h a0 2)) h)))
set_option maxRecDepth 100000 in
set_option maxHeartbeats 4000000 in
theorem zsX3_ahead_0 {E : Wd} {X : Mx} {d : Nat} {Q : Int32 → Hp → Prop} (C : zz_C E X YX3_ahead d 0 0 (fun r h' => ∃ x : Int32, r = some (.int x) ∧ Q x h')) (a0 : Nat) (h : Hp) (v : vcX3_ahead_0 E d a0 h Q) : GG E X 1 0 0 0 [some (.ref a0)] [] h := by
  refine zg_aload_n (q := 1) C dX3_ahead_0 rfl rfl ?_
  refine zg_get (j := 2) (q := 4) C bX3 (by decide) lkX3_48 dX3_ahead_1 rfl (okI.get v.1) ?_
  have v := v.2
  refine zg_if_lt (t := 42) (q := 7) C dX3_ahead_4 (by decide) rfl (fun c => ?_) (fun c => ?_)
  · have v := v.1 c
    refine zg_iconst (v := (-1)) (q := 43) C dX3_ahead_42 (by decide) rfl ?_
    exact zg_iret C rfl dX3_ahead_43 ⟨Nat.le_refl _, Nat.le_refl _⟩ ⟨_, rfl, v⟩
  · have v := v.2 c
    refine zg_aload_n (q := 8) C dX3_ahead_7 rfl rfl ?_
    refine zg_get (j := 2) (q := 11) C bX3 (by decide) lkX3_48 dX3_ahead_8 rfl (okI.get v.1) ?_
    have v := v.2
    refine zg_aload_n (q := 12) C dX3_ahead_11 rfl rfl ?_
    refine zg_get (j := 1) (q := 15) C bX3 (by decide) lkX3_28 dX3_ahead_12 rfl (okI.get v.1) ?_
    have v := v.2
    refine zg_icmp_ge (t := 42) (q := 18) C dX3_ahead_15 (by decide) rfl (fun c => ?_) (fun c => ?_)
    · have v := v.1 c
      refine zg_iconst (v := (-1)) (q := 43) C dX3_ahead_42 (by decide) rfl ?_
      exact zg_iret C rfl dX3_ahead_43 ⟨Nat.le_refl _, Nat.le_refl _⟩ ⟨_, rfl, v⟩
    · have v := v.2 c
      refine zg_aload_n (q := 19) C dX3_ahead_18 rfl rfl ?_
      refine zg_get (j := 2) (q := 22) C bX3 (by decide) lkX3_48 dX3_ahead_19 rfl (okI.get v.1) ?_
      have v := v.2
      refine zg_aload_n (q := 23) C dX3_ahead_22 rfl rfl ?_
      refine zg_get (j := 0) (q := 26) C bX3 (by decide) lkX3_19 dX3_ahead_23 rfl (okA.get v.1) ?_
      have v := v.2
      refine zg_alen (t := 0) (q := 27) C (by decide) dX3_ahead_26 rfl v.1 ?_
      have v := v.2
      refine zg_icmp_ge (t := 42) (q := 30) C dX3_ahead_27 (by decide) rfl (fun c => ?_) (fun c => ?_)
      · have v := v.1 c
        refine zg_iconst (v := (-1)) (q := 43) C dX3_ahead_42 (by decide) rfl ?_
        exact zg_iret C rfl dX3_ahead_43 ⟨Nat.le_refl _, Nat.le_refl _⟩ ⟨_, rfl, v⟩
      · have v := v.2 c
        refine zg_aload_n (q := 31) C dX3_ahead_30 rfl rfl ?_
        refine zg_get (j := 0) (q := 34) C bX3 (by decide) lkX3_19 dX3_ahead_31 rfl (okA.get v.1) ?_
        have v := v.2
        refine zg_aload_n (q := 35) C dX3_ahead_34 rfl rfl ?_
        refine zg_get (j := 2) (q := 38) C bX3 (by decide) lkX3_48 dX3_ahead_35 rfl (okI.get v.1) ?_
        have v := v.2
        refine zg_iald (q := 39) C dX3_ahead_38 rfl v.1 ?_
        have v := v.2
        refine zg_goto (t := 43) C dX3_ahead_39 (by decide) ?_
        exact zg_iret C rfl dX3_ahead_43 ⟨Nat.le_refl _, Nat.le_refl _⟩ ⟨_, rfl, v⟩
theorem rnX3_ahead {E : Wd} {d : Nat} {a0 : Nat} {h : Hp} {Q : Int32 → Hp → Prop} (k : vcX3_ahead_0 E d a0 h Q) : OkI E YX3_ahead d [.ref a0] h Q :=
  zz_body2 (r := 0) mX3_ahead (zc_a zc_n) (Nat.le_of_ble_eq_true rfl) (fun X C => zsX3_ahead_0 C a0 h k)
def vcX3_take_0 (E : Wd) (d : Nat) (a0 : Nat) (x1 : Int32) (h : Hp) (Q : Int32 → Hp → Prop) : Prop :=
  isO h a0 3 ∧ OkI E YX3_ahead d [.ref a0] h (fun r2 h1 => (r2 = x1 → okI h1 a0 3 2 ∧ okP h1 a0 3 2 ∧ ∀ h3, h3 = pF h1 a0 2 (.int ((fI h1 a0 2) + (1 : Int32))) → mB 1 ∧ Q 1 h3) ∧ (¬ r2 = x1 → mB 0 ∧ Q 0 h1))
set_option maxRecDepth 100000 in
set_option maxHeartbeats 4000000 in
theorem zsX3_take_0 {E : Wd} {X : Mx} {d : Nat} {Q : Int32 → Hp → Prop} (C : zz_C E X YX3_take (d + 1) 0 0 (fun r h' => ∃ x : Int32, r = some (.int x) ∧ Q x h')) (a0 : Nat) (x1 : Int32) (h : Hp) (v : vcX3_take_0 E d a0 x1 h Q) : GG E X 2 0 0 0 [some (.ref a0), some (.int x1)] [] h := by
  refine zg_aload_n (q := 1) C dX3_take_0 rfl rfl ?_
  refine zg_cV0I (q := 4) C mX3_ahead vX3_ahead lmX3_54 rfl (bX3).1 v.1 (Nat.le_of_ble_eq_true rfl) ⟨Nat.le_refl _, Nat.le_refl _⟩ dX3_take_1 rfl v.2 (fun r2 h1 v => ?_)
  refine zg_iload_n (q := 5) C dX3_take_4 rfl rfl ?_
  refine zg_icmp_eq (t := 10) (q := 8) C dX3_take_5 (by decide) rfl (fun c => ?_) (fun c => ?_)
  · have v := v.1 c
    refine zg_aload_n (q := 11) C dX3_take_10 rfl rfl ?_
    refine zg_dup (q := 12) C dX3_take_11 rfl rfl ?_
    refine zg_get (j := 2) (q := 15) C bX3 (by decide) lkX3_48 dX3_take_12 rfl (okI.get v.1) ?_
    have v := v.2
    refine zg_iconst (v := 1) (q := 16) C dX3_take_15 (by decide) rfl ?_
    refine zg_iadd (q := 17) C dX3_take_16 rfl ?_
    refine zg_put (j := 2) (q := 20) C bX3 (by decide) lkX3_48 dX3_take_17 rfl rfl v.1 rfl rfl ?_
    have v := v.2 _ rfl
    refine zg_iconst (v := 1) (q := 21) C dX3_take_20 (by decide) rfl ?_
    exact zg_zret C rfl dX3_take_21 ⟨Nat.le_refl _, Nat.le_refl _⟩ v.1 ⟨_, rfl, v.2⟩
  · have v := v.2 c
    refine zg_iconst (v := 0) (q := 9) C dX3_take_8 (by decide) rfl ?_
    exact zg_zret C rfl dX3_take_9 ⟨Nat.le_refl _, Nat.le_refl _⟩ v.1 ⟨_, rfl, v.2⟩
theorem rnX3_take {E : Wd} {d : Nat} {a0 : Nat} {x1 : Int32} {h : Hp} {Q : Int32 → Hp → Prop} (k : vcX3_take_0 E d a0 x1 h Q) : OkI E YX3_take (d + 1) [.ref a0, .int x1] h Q :=
  zz_body2 (r := 0) mX3_take (zc_a (zc_i zc_n)) (Nat.le_of_ble_eq_true rfl) (fun X C => zsX3_take_0 C a0 x1 h k)
def vcX3_digitAhead_0 (E : Wd) (d : Nat) (a0 : Nat) (h : Hp) (Q : Int32 → Hp → Prop) : Prop :=
  isO h a0 3 ∧ OkI E YX3_ahead d [.ref a0] h (fun r2 h1 => (r2 < (48 : Int32) → Q ((-1)) h1) ∧ (¬ r2 < (48 : Int32) → ((57 : Int32) < r2 → Q ((-1)) h1) ∧ (¬ (57 : Int32) < r2 → Q (r2 - (48 : Int32)) h1)))
set_option maxRecDepth 100000 in
set_option maxHeartbeats 4000000 in
theorem zsX3_digitAhead_0 {E : Wd} {X : Mx} {d : Nat} {Q : Int32 → Hp → Prop} (C : zz_C E X YX3_digitAhead (d + 1) 0 0 (fun r h' => ∃ x : Int32, r = some (.int x) ∧ Q x h')) (a0 : Nat) (h : Hp) (v : vcX3_digitAhead_0 E d a0 h Q) : GG E X 2 0 0 0 [some (.ref a0), none] [] h := by
  refine zg_aload_n (q := 1) C dX3_digitAhead_0 rfl rfl ?_
  refine zg_cV0I (q := 4) C mX3_ahead vX3_ahead lmX3_54 rfl (bX3).1 v.1 (Nat.le_of_ble_eq_true rfl) ⟨Nat.le_refl _, Nat.le_refl _⟩ dX3_digitAhead_1 rfl v.2 (fun r2 h1 v => ?_)
  refine zg_istore_n (q := 5) C dX3_digitAhead_4 (by decide) rfl ?_
  refine zg_iload_n (q := 6) C dX3_digitAhead_5 rfl rfl ?_
  refine zg_bipush (v := 48) (q := 8) C dX3_digitAhead_6 (by decide) rfl ?_
  refine zg_icmp_lt (t := 24) (q := 11) C dX3_digitAhead_8 (by decide) rfl (fun c => ?_) (fun c => ?_)
  · have v := v.1 c
    refine zg_iconst (v := (-1)) (q := 25) C dX3_digitAhead_24 (by decide) rfl ?_
    exact zg_iret C rfl dX3_digitAhead_25 ⟨Nat.le_refl _, Nat.le_refl _⟩ ⟨_, rfl, v⟩
  · have v := v.2 c
    refine zg_iload_n (q := 12) C dX3_digitAhead_11 rfl rfl ?_
    refine zg_bipush (v := 57) (q := 14) C dX3_digitAhead_12 (by decide) rfl ?_
    refine zg_icmp_gt (t := 24) (q := 17) C dX3_digitAhead_14 (by decide) rfl (fun c => ?_) (fun c => ?_)
    · have v := v.1 c
      refine zg_iconst (v := (-1)) (q := 25) C dX3_digitAhead_24 (by decide) rfl ?_
      exact zg_iret C rfl dX3_digitAhead_25 ⟨Nat.le_refl _, Nat.le_refl _⟩ ⟨_, rfl, v⟩
    · have v := v.2 c
      refine zg_iload_n (q := 18) C dX3_digitAhead_17 rfl rfl ?_
      refine zg_bipush (v := 48) (q := 20) C dX3_digitAhead_18 (by decide) rfl ?_
      refine zg_isub (q := 21) C dX3_digitAhead_20 rfl ?_
      refine zg_goto (t := 25) C dX3_digitAhead_21 (by decide) ?_
      exact zg_iret C rfl dX3_digitAhead_25 ⟨Nat.le_refl _, Nat.le_refl _⟩ ⟨_, rfl, v⟩
theorem rnX3_digitAhead {E : Wd} {d : Nat} {a0 : Nat} {h : Hp} {Q : Int32 → Hp → Prop} (k : vcX3_digitAhead_0 E d a0 h Q) : OkI E YX3_digitAhead (d + 1) [.ref a0] h Q :=
  zz_body2 (r := 1) mX3_digitAhead (zc_a zc_n) (Nat.le_of_ble_eq_true rfl) (fun X C => zsX3_digitAhead_0 C a0 h k)
def vcX3_readSize_0 (E : Wd) (d : Nat) (a0 : Nat) (h : Hp) (Q : Int32 → Hp → Prop) : Prop :=
  isO h a0 3 ∧ OkI E YX3_digitAhead d [.ref a0] h (fun r2 h1 => okP h1 a0 3 3 ∧ ∀ h3, h3 = pF h1 a0 3 (.int r2) → okI h3 a0 3 3 ∧ ((fI h3 a0 3) < (2 : Int32) → mB 0 ∧ Q 0 h3) ∧ (¬ (fI h3 a0 3) < (2 : Int32) → okI h3 a0 3 3 ∧ ((fI h3 a0 3) ≤ (6 : Int32) → okI h3 a0 3 2 ∧ okP h3 a0 3 2 ∧ ∀ h4, h4 = pF h3 a0 2 (.int ((fI h3 a0 2) + (1 : Int32))) → isO h4 a0 3 ∧ OkI E YX3_digitAhead d [.ref a0] h4 (fun r6 h5 => okP h5 a0 3 4 ∧ ∀ h7, h7 = pF h5 a0 4 (.int r6) → okI h7 a0 3 4 ∧ ((fI h7 a0 4) < (2 : Int32) → mB 0 ∧ Q 0 h7) ∧ (¬ (fI h7 a0 4) < (2 : Int32) → okI h7 a0 3 4 ∧ ((fI h7 a0 4) ≤ (6 : Int32) → okI h7 a0 3 3 ∧ okI h7 a0 3 4 ∧ (((fI h7 a0 3) * (fI h7 a0 4)) ≤ (12 : Int32) → okI h7 a0 3 2 ∧ okP h7 a0 3 2 ∧ ∀ h8, h8 = pF h7 a0 2 (.int ((fI h7 a0 2) + (1 : Int32))) → mB 1 ∧ Q 1 h8) ∧ (¬ ((fI h7 a0 3) * (fI h7 a0 4)) ≤ (12 : Int32) → mB 0 ∧ Q 0 h7)) ∧ (¬ (fI h7 a0 4) ≤ (6 : Int32) → mB 0 ∧ Q 0 h7)))) ∧ (¬ (fI h3 a0 3) ≤ (6 : Int32) → mB 0 ∧ Q 0 h3)))
set_option maxRecDepth 100000 in
set_option maxHeartbeats 4000000 in
theorem zsX3_readSize_0 {E : Wd} {X : Mx} {d : Nat} {Q : Int32 → Hp → Prop} (C : zz_C E X YX3_readSize (d + 1) 0 0 (fun r h' => ∃ x : Int32, r = some (.int x) ∧ Q x h')) (a0 : Nat) (h : Hp) (v : vcX3_readSize_0 E d a0 h Q) : GG E X 1 0 0 0 [some (.ref a0)] [] h := by
  refine zg_aload_n (q := 1) C dX3_readSize_0 rfl rfl ?_
  refine zg_aload_n (q := 2) C dX3_readSize_1 rfl rfl ?_
  refine zg_cV0I (q := 5) C mX3_digitAhead vX3_digitAhead lmX3_58 rfl (bX3).1 v.1 (Nat.le_of_ble_eq_true rfl) ⟨Nat.le_refl _, Nat.le_refl _⟩ dX3_readSize_2 rfl v.2 (fun r2 h1 v => ?_)
  refine zg_put (j := 3) (q := 8) C bX3 (by decide) lkX3_61 dX3_readSize_5 rfl rfl v.1 rfl rfl ?_
  have v := v.2 _ rfl
  refine zg_aload_n (q := 9) C dX3_readSize_8 rfl rfl ?_
  refine zg_get (j := 3) (q := 12) C bX3 (by decide) lkX3_61 dX3_readSize_9 rfl (okI.get v.1) ?_
  have v := v.2
  refine zg_iconst (v := 2) (q := 13) C dX3_readSize_12 (by decide) rfl ?_
  refine zg_icmp_lt (t := 25) (q := 16) C dX3_readSize_13 (by decide) rfl (fun c => ?_) (fun c => ?_)
  · have v := v.1 c
    refine zg_iconst (v := 0) (q := 26) C dX3_readSize_25 (by decide) rfl ?_
    exact zg_zret C rfl dX3_readSize_26 ⟨Nat.le_refl _, Nat.le_refl _⟩ v.1 ⟨_, rfl, v.2⟩
  · have v := v.2 c
    refine zg_aload_n (q := 17) C dX3_readSize_16 rfl rfl ?_
    refine zg_get (j := 3) (q := 20) C bX3 (by decide) lkX3_61 dX3_readSize_17 rfl (okI.get v.1) ?_
    have v := v.2
    refine zg_bipush (v := 6) (q := 22) C dX3_readSize_20 (by decide) rfl ?_
    refine zg_icmp_le (t := 27) (q := 25) C dX3_readSize_22 (by decide) rfl (fun c => ?_) (fun c => ?_)
    · have v := v.1 c
      refine zg_aload_n (q := 28) C dX3_readSize_27 rfl rfl ?_
      refine zg_dup (q := 29) C dX3_readSize_28 rfl rfl ?_
      refine zg_get (j := 2) (q := 32) C bX3 (by decide) lkX3_48 dX3_readSize_29 rfl (okI.get v.1) ?_
      have v := v.2
      refine zg_iconst (v := 1) (q := 33) C dX3_readSize_32 (by decide) rfl ?_
      refine zg_iadd (q := 34) C dX3_readSize_33 rfl ?_
      refine zg_put (j := 2) (q := 37) C bX3 (by decide) lkX3_48 dX3_readSize_34 rfl rfl v.1 rfl rfl ?_
      have v := v.2 _ rfl
      refine zg_aload_n (q := 38) C dX3_readSize_37 rfl rfl ?_
      refine zg_aload_n (q := 39) C dX3_readSize_38 rfl rfl ?_
      refine zg_cV0I (q := 42) C mX3_digitAhead vX3_digitAhead lmX3_58 rfl (bX3).1 v.1 (Nat.le_of_ble_eq_true rfl) ⟨Nat.le_refl _, Nat.le_refl _⟩ dX3_readSize_39 rfl v.2 (fun r6 h5 v => ?_)
      refine zg_put (j := 4) (q := 45) C bX3 (by decide) lkX3_64 dX3_readSize_42 rfl rfl v.1 rfl rfl ?_
      have v := v.2 _ rfl
      refine zg_aload_n (q := 46) C dX3_readSize_45 rfl rfl ?_
      refine zg_get (j := 4) (q := 49) C bX3 (by decide) lkX3_64 dX3_readSize_46 rfl (okI.get v.1) ?_
      have v := v.2
      refine zg_iconst (v := 2) (q := 50) C dX3_readSize_49 (by decide) rfl ?_
      refine zg_icmp_lt (t := 62) (q := 53) C dX3_readSize_50 (by decide) rfl (fun c => ?_) (fun c => ?_)
      · have v := v.1 c
        refine zg_iconst (v := 0) (q := 63) C dX3_readSize_62 (by decide) rfl ?_
        exact zg_zret C rfl dX3_readSize_63 ⟨Nat.le_refl _, Nat.le_refl _⟩ v.1 ⟨_, rfl, v.2⟩
      · have v := v.2 c
        refine zg_aload_n (q := 54) C dX3_readSize_53 rfl rfl ?_
        refine zg_get (j := 4) (q := 57) C bX3 (by decide) lkX3_64 dX3_readSize_54 rfl (okI.get v.1) ?_
        have v := v.2
        refine zg_bipush (v := 6) (q := 59) C dX3_readSize_57 (by decide) rfl ?_
        refine zg_icmp_le (t := 64) (q := 62) C dX3_readSize_59 (by decide) rfl (fun c => ?_) (fun c => ?_)
        · have v := v.1 c
          refine zg_aload_n (q := 65) C dX3_readSize_64 rfl rfl ?_
          refine zg_get (j := 3) (q := 68) C bX3 (by decide) lkX3_61 dX3_readSize_65 rfl (okI.get v.1) ?_
          have v := v.2
          refine zg_aload_n (q := 69) C dX3_readSize_68 rfl rfl ?_
          refine zg_get (j := 4) (q := 72) C bX3 (by decide) lkX3_64 dX3_readSize_69 rfl (okI.get v.1) ?_
          have v := v.2
          refine zg_imul (q := 73) C dX3_readSize_72 rfl ?_
          refine zg_bipush (v := 12) (q := 75) C dX3_readSize_73 (by decide) rfl ?_
          refine zg_icmp_le (t := 80) (q := 78) C dX3_readSize_75 (by decide) rfl (fun c => ?_) (fun c => ?_)
          · have v := v.1 c
            refine zg_aload_n (q := 81) C dX3_readSize_80 rfl rfl ?_
            refine zg_dup (q := 82) C dX3_readSize_81 rfl rfl ?_
            refine zg_get (j := 2) (q := 85) C bX3 (by decide) lkX3_48 dX3_readSize_82 rfl (okI.get v.1) ?_
            have v := v.2
            refine zg_iconst (v := 1) (q := 86) C dX3_readSize_85 (by decide) rfl ?_
            refine zg_iadd (q := 87) C dX3_readSize_86 rfl ?_
            refine zg_put (j := 2) (q := 90) C bX3 (by decide) lkX3_48 dX3_readSize_87 rfl rfl v.1 rfl rfl ?_
            have v := v.2 _ rfl
            refine zg_iconst (v := 1) (q := 91) C dX3_readSize_90 (by decide) rfl ?_
            exact zg_zret C rfl dX3_readSize_91 ⟨Nat.le_refl _, Nat.le_refl _⟩ v.1 ⟨_, rfl, v.2⟩
          · have v := v.2 c
            refine zg_iconst (v := 0) (q := 79) C dX3_readSize_78 (by decide) rfl ?_
            exact zg_zret C rfl dX3_readSize_79 ⟨Nat.le_refl _, Nat.le_refl _⟩ v.1 ⟨_, rfl, v.2⟩
        · have v := v.2 c
          refine zg_iconst (v := 0) (q := 63) C dX3_readSize_62 (by decide) rfl ?_
          exact zg_zret C rfl dX3_readSize_63 ⟨Nat.le_refl _, Nat.le_refl _⟩ v.1 ⟨_, rfl, v.2⟩
    · have v := v.2 c
      refine zg_iconst (v := 0) (q := 26) C dX3_readSize_25 (by decide) rfl ?_
      exact zg_zret C rfl dX3_readSize_26 ⟨Nat.le_refl _, Nat.le_refl _⟩ v.1 ⟨_, rfl, v.2⟩
theorem rnX3_readSize {E : Wd} {d : Nat} {a0 : Nat} {h : Hp} {Q : Int32 → Hp → Prop} (k : vcX3_readSize_0 E d a0 h Q) : OkI E YX3_readSize (d + 1) [.ref a0] h Q :=
  zz_body2 (r := 0) mX3_readSize (zc_a zc_n) (Nat.le_of_ble_eq_true rfl) (fun X C => zsX3_readSize_0 C a0 h k)
def vcX3_readMen_0 (E : Wd) (d : Nat) (K11 : Nat → Int32 → Hp → Prop) (a0 : Nat) (h : Hp) (Q : Int32 → Hp → Prop) : Prop :=
  isO h a0 3 ∧ OkI E YX3_readMan d [.ref a0] h (fun r2 h1 => (¬ r2 = (0 : Int32) → K11 a0 0 h1) ∧ (r2 = (0 : Int32) → mB 0 ∧ Q 0 h1))
def vcX3_readMen_11 (E : Wd) (d : Nat) (K11 : Nat → Int32 → Hp → Prop) (a0 : Nat) (x1 : Int32) (h : Hp) (Q : Int32 → Hp → Prop) : Prop :=
  ((3 : Int32) ≤ x1 → mB 1 ∧ Q 1 h) ∧ (¬ (3 : Int32) ≤ x1 → isO h a0 3 ∧ OkI E YX3_kindAhead d [.ref a0] h (fun r2 h1 => (r2 < (0 : Int32) → mB 1 ∧ Q 1 h1) ∧ (¬ r2 < (0 : Int32) → isO h1 a0 3 ∧ OkI E YX3_readMan d [.ref a0] h1 (fun r4 h3 => (¬ r4 = (0 : Int32) → K11 a0 (x1 + 1) h3) ∧ (r4 = (0 : Int32) → mB 0 ∧ Q 0 h3)))))
def zkX3_readMen_11 (E : Wd) (X : Mx) : Nat → Int32 → Hp → Prop := fun a0 x1 h => GG E X 2 0 0 11 [some (.ref a0), some (.int x1)] [] h
set_option maxRecDepth 100000 in
set_option maxHeartbeats 4000000 in
theorem zsX3_readMen_0 {E : Wd} {X : Mx} {d : Nat} {Q : Int32 → Hp → Prop} (C : zz_C E X YX3_readMen (d + 1) 0 0 (fun r h' => ∃ x : Int32, r = some (.int x) ∧ Q x h')) (a0 : Nat) (h : Hp) (v : vcX3_readMen_0 E d (zkX3_readMen_11 E X) a0 h Q) : GG E X 2 0 0 0 [some (.ref a0), none] [] h := by
  refine zg_aload_n (q := 1) C dX3_readMen_0 rfl rfl ?_
  refine zg_cV0I (q := 4) C mX3_readMan vX3_readMan lmX3_67 rfl (bX3).1 v.1 (Nat.le_of_ble_eq_true rfl) ⟨Nat.le_refl _, Nat.le_refl _⟩ dX3_readMen_1 rfl v.2 (fun r2 h1 v => ?_)
  refine zg_if_ne (t := 9) (q := 7) C dX3_readMen_4 (by decide) rfl (fun c => ?_) (fun c => ?_)
  · have v := v.1 c
    refine zg_iconst (v := 0) (q := 10) C dX3_readMen_9 (by decide) rfl ?_
    refine zg_istore_n (q := 11) C dX3_readMen_10 (by decide) rfl ?_
    exact zg_mask [true, true] v
  · have v := v.2 c
    refine zg_iconst (v := 0) (q := 8) C dX3_readMen_7 (by decide) rfl ?_
    exact zg_zret C rfl dX3_readMen_8 ⟨Nat.le_refl _, Nat.le_refl _⟩ v.1 ⟨_, rfl, v.2⟩
set_option maxRecDepth 100000 in
set_option maxHeartbeats 4000000 in
theorem zsX3_readMen_11 {E : Wd} {X : Mx} {d : Nat} {Q : Int32 → Hp → Prop} (C : zz_C E X YX3_readMen (d + 1) 0 0 (fun r h' => ∃ x : Int32, r = some (.int x) ∧ Q x h')) (a0 : Nat) (x1 : Int32) (h : Hp) (v : vcX3_readMen_11 E d (zkX3_readMen_11 E X) a0 x1 h Q) : GG E X 2 0 0 11 [some (.ref a0), some (.int x1)] [] h := by
  refine zg_iload_n (q := 12) C dX3_readMen_11 rfl rfl ?_
  refine zg_iconst (v := 3) (q := 13) C dX3_readMen_12 (by decide) rfl ?_
  refine zg_icmp_ge (t := 38) (q := 16) C dX3_readMen_13 (by decide) rfl (fun c => ?_) (fun c => ?_)
  · have v := v.1 c
    refine zg_iconst (v := 1) (q := 39) C dX3_readMen_38 (by decide) rfl ?_
    exact zg_zret C rfl dX3_readMen_39 ⟨Nat.le_refl _, Nat.le_refl _⟩ v.1 ⟨_, rfl, v.2⟩
  · have v := v.2 c
    refine zg_aload_n (q := 17) C dX3_readMen_16 rfl rfl ?_
    refine zg_cV0I (q := 20) C mX3_kindAhead vX3_kindAhead lmX3_70 rfl (bX3).1 v.1 (Nat.le_of_ble_eq_true rfl) ⟨Nat.le_refl _, Nat.le_refl _⟩ dX3_readMen_17 rfl v.2 (fun r2 h1 v => ?_)
    refine zg_if_lt (t := 38) (q := 23) C dX3_readMen_20 (by decide) rfl (fun c => ?_) (fun c => ?_)
    · have v := v.1 c
      refine zg_iconst (v := 1) (q := 39) C dX3_readMen_38 (by decide) rfl ?_
      exact zg_zret C rfl dX3_readMen_39 ⟨Nat.le_refl _, Nat.le_refl _⟩ v.1 ⟨_, rfl, v.2⟩
    · have v := v.2 c
      refine zg_aload_n (q := 24) C dX3_readMen_23 rfl rfl ?_
      refine zg_cV0I (q := 27) C mX3_readMan vX3_readMan lmX3_67 rfl (bX3).1 v.1 (Nat.le_of_ble_eq_true rfl) ⟨Nat.le_refl _, Nat.le_refl _⟩ dX3_readMen_24 rfl v.2 (fun r4 h3 v => ?_)
      refine zg_if_ne (t := 32) (q := 30) C dX3_readMen_27 (by decide) rfl (fun c => ?_) (fun c => ?_)
      · have v := v.1 c
        refine zg_iinc (v := 1) (q := 35) C dX3_readMen_32 rfl (by decide) (by decide) rfl ?_
        refine zg_goto (t := 11) C dX3_readMen_35 (by decide) ?_
        exact zg_mask [true, true] v
      · have v := v.2 c
        refine zg_iconst (v := 0) (q := 31) C dX3_readMen_30 (by decide) rfl ?_
        exact zg_zret C rfl dX3_readMen_31 ⟨Nat.le_refl _, Nat.le_refl _⟩ v.1 ⟨_, rfl, v.2⟩
theorem rnX3_readMen {E : Wd} {d : Nat} {a0 : Nat} {h : Hp} {Q : Int32 → Hp → Prop} (k : ∀ (K11 : Nat → Int32 → Hp → Prop),(∀ (a0 : Nat) (x1 : Int32) h, vcX3_readMen_11 E d K11 a0 x1 h Q → K11 a0 x1 h) → vcX3_readMen_0 E d K11 a0 h Q) : OkI E YX3_readMen (d + 1) [.ref a0] h Q :=
  zz_body2 (r := 1) mX3_readMen (zc_a zc_n) (Nat.le_of_ble_eq_true rfl) (fun X C => zsX3_readMen_0 C a0 h (k (zkX3_readMen_11 E X) (fun a0 x1 h v => zsX3_readMen_11 C a0 x1 h v)))
def vcX3_kindAhead_0 (E : Wd) (d : Nat) (a0 : Nat) (h : Hp) (Q : Int32 → Hp → Prop) : Prop :=
  isO h a0 3 ∧ OkI E YX3_ahead d [.ref a0] h (fun r2 h1 => ((0 : Int32) ≤ r2 → OkI E YJ0_indexOf_0f7a4 d [.ref (eS E), .int (((r2 : Int32).toUInt32 % 65536).toInt32)] h1 (fun r4 h3 => Q r4 h3)) ∧ (¬ (0 : Int32) ≤ r2 → Q ((-1)) h1))
set_option maxRecDepth 100000 in
set_option maxHeartbeats 4000000 in
theorem zsX3_kindAhead_0 {E : Wd} {X : Mx} {d : Nat} {Q : Int32 → Hp → Prop} (C : zz_C E X YX3_kindAhead (d + 1) 0 0 (fun r h' => ∃ x : Int32, r = some (.int x) ∧ Q x h')) (a0 : Nat) (h : Hp) (v : vcX3_kindAhead_0 E d a0 h Q) : GG E X 2 0 0 0 [some (.ref a0), none] [] h := by
  refine zg_aload_n (q := 1) C dX3_kindAhead_0 rfl rfl ?_
  refine zg_cV0I (q := 4) C mX3_ahead vX3_ahead lmX3_54 rfl (bX3).1 v.1 (Nat.le_of_ble_eq_true rfl) ⟨Nat.le_refl _, Nat.le_refl _⟩ dX3_kindAhead_1 rfl v.2 (fun r2 h1 v => ?_)
  refine zg_istore_n (q := 5) C dX3_kindAhead_4 (by decide) rfl ?_
  refine zg_iload_n (q := 6) C dX3_kindAhead_5 rfl rfl ?_
  refine zg_if_ge (t := 13) (q := 9) C dX3_kindAhead_6 (by decide) rfl (fun c => ?_) (fun c => ?_)
  · have v := v.1 c
    refine zg_ldcS (q := 15) C (Or.inl ⟨rfl, rfl⟩) dX3_kindAhead_13 rfl ?_
    refine zg_iload_n (q := 16) C dX3_kindAhead_15 rfl rfl ?_
    refine zg_i2c (q := 17) C dX3_kindAhead_16 rfl ?_
    refine zg_cT1I (q := 20) C mJ0_indexOf_0f7a4 vJ0_indexOf_0f7a4 lmX3_75 rfl rfl rfl (Nat.le_of_ble_eq_true rfl) ⟨Nat.le_refl _, Nat.le_refl _⟩ dX3_kindAhead_17 rfl v (fun r4 h3 v => ?_)
    exact zg_iret C rfl dX3_kindAhead_20 ⟨Nat.le_refl _, Nat.le_refl _⟩ ⟨_, rfl, v⟩
  · have v := v.2 c
    refine zg_iconst (v := (-1)) (q := 10) C dX3_kindAhead_9 (by decide) rfl ?_
    refine zg_goto (t := 20) C dX3_kindAhead_10 (by decide) ?_
    exact zg_iret C rfl dX3_kindAhead_20 ⟨Nat.le_refl _, Nat.le_refl _⟩ ⟨_, rfl, v⟩
theorem rnX3_kindAhead {E : Wd} {d : Nat} {a0 : Nat} {h : Hp} {Q : Int32 → Hp → Prop} (k : vcX3_kindAhead_0 E d a0 h Q) : OkI E YX3_kindAhead (d + 1) [.ref a0] h Q :=
  zz_body2 (r := 1) mX3_kindAhead (zc_a zc_n) (Nat.le_of_ble_eq_true rfl) (fun X C => zsX3_kindAhead_0 C a0 h k)
def vcX3_readMan_0 (E : Wd) (d : Nat) (a0 : Nat) (h : Hp) (Q : Int32 → Hp → Prop) : Prop :=
  isO h a0 3 ∧ OkI E YX3_kindAhead d [.ref a0] h (fun r2 h1 => (r2 < (0 : Int32) → mB 0 ∧ Q 0 h1) ∧ (¬ r2 < (0 : Int32) → okI h1 a0 3 5 ∧ ((fI h1 a0 5) < (0 : Int32) → mB 0 ∧ Q 0 h1) ∧ (¬ (fI h1 a0 5) < (0 : Int32) → okI h1 a0 3 5 ∧ okA h1 a0 3 10 ∧ okL E h1 (fA h1 a0 10) 0 ∧ ((fI h1 a0 5) < (lA h1 (fA h1 a0 10)) → okA h1 a0 3 10 ∧ okI h1 a0 3 5 ∧ okR E h1 (fA h1 a0 10) 0 (fI h1 a0 5) ∧ ∀ h3, h3 = sA h1 (fA h1 a0 10) (fI h1 a0 5) r2 → okI h3 a0 3 5 ∧ okP h3 a0 3 5 ∧ ∀ h4, h4 = pF h3 a0 5 (.int ((fI h3 a0 5) + (1 : Int32))) → okI h4 a0 3 2 ∧ okP h4 a0 3 2 ∧ ∀ h5, h5 = pF h4 a0 2 (.int ((fI h4 a0 2) + (1 : Int32))) → mB 1 ∧ Q 1 h5) ∧ (¬ (fI h1 a0 5) < (lA h1 (fA h1 a0 10)) → mB 0 ∧ Q 0 h1))))
set_option maxRecDepth 100000 in
set_option maxHeartbeats 4000000 in
theorem zsX3_readMan_0 {E : Wd} {X : Mx} {d : Nat} {Q : Int32 → Hp → Prop} (C : zz_C E X YX3_readMan (d + 1) 0 0 (fun r h' => ∃ x : Int32, r = some (.int x) ∧ Q x h')) (a0 : Nat) (h : Hp) (v : vcX3_readMan_0 E d a0 h Q) : GG E X 2 0 0 0 [some (.ref a0), none] [] h := by
  refine zg_aload_n (q := 1) C dX3_readMan_0 rfl rfl ?_
  refine zg_cV0I (q := 4) C mX3_kindAhead vX3_kindAhead lmX3_70 rfl (bX3).1 v.1 (Nat.le_of_ble_eq_true rfl) ⟨Nat.le_refl _, Nat.le_refl _⟩ dX3_readMan_1 rfl v.2 (fun r2 h1 v => ?_)
  refine zg_istore_n (q := 5) C dX3_readMan_4 (by decide) rfl ?_
  refine zg_iload_n (q := 6) C dX3_readMan_5 rfl rfl ?_
  refine zg_if_lt (t := 28) (q := 9) C dX3_readMan_6 (by decide) rfl (fun c => ?_) (fun c => ?_)
  · have v := v.1 c
    refine zg_iconst (v := 0) (q := 29) C dX3_readMan_28 (by decide) rfl ?_
    exact zg_zret C rfl dX3_readMan_29 ⟨Nat.le_refl _, Nat.le_refl _⟩ v.1 ⟨_, rfl, v.2⟩
  · have v := v.2 c
    refine zg_aload_n (q := 10) C dX3_readMan_9 rfl rfl ?_
    refine zg_get (j := 5) (q := 13) C bX3 (by decide) lkX3_42 dX3_readMan_10 rfl (okI.get v.1) ?_
    have v := v.2
    refine zg_if_lt (t := 28) (q := 16) C dX3_readMan_13 (by decide) rfl (fun c => ?_) (fun c => ?_)
    · have v := v.1 c
      refine zg_iconst (v := 0) (q := 29) C dX3_readMan_28 (by decide) rfl ?_
      exact zg_zret C rfl dX3_readMan_29 ⟨Nat.le_refl _, Nat.le_refl _⟩ v.1 ⟨_, rfl, v.2⟩
    · have v := v.2 c
      refine zg_aload_n (q := 17) C dX3_readMan_16 rfl rfl ?_
      refine zg_get (j := 5) (q := 20) C bX3 (by decide) lkX3_42 dX3_readMan_17 rfl (okI.get v.1) ?_
      have v := v.2
      refine zg_aload_n (q := 21) C dX3_readMan_20 rfl rfl ?_
      refine zg_get (j := 10) (q := 24) C bX3 (by decide) lkX3_15 dX3_readMan_21 rfl (okA.get v.1) ?_
      have v := v.2
      refine zg_alen (t := 0) (q := 25) C (by decide) dX3_readMan_24 rfl v.1 ?_
      have v := v.2
      refine zg_icmp_lt (t := 30) (q := 28) C dX3_readMan_25 (by decide) rfl (fun c => ?_) (fun c => ?_)
      · have v := v.1 c
        refine zg_aload_n (q := 31) C dX3_readMan_30 rfl rfl ?_
        refine zg_get (j := 10) (q := 34) C bX3 (by decide) lkX3_15 dX3_readMan_31 rfl (okA.get v.1) ?_
        have v := v.2
        refine zg_aload_n (q := 35) C dX3_readMan_34 rfl rfl ?_
        refine zg_get (j := 5) (q := 38) C bX3 (by decide) lkX3_42 dX3_readMan_35 rfl (okI.get v.1) ?_
        have v := v.2
        refine zg_iload_n (q := 39) C dX3_readMan_38 rfl rfl ?_
        refine zg_iast (q := 40) C dX3_readMan_39 rfl v.1 ?_
        have v := v.2 _ rfl
        refine zg_aload_n (q := 41) C dX3_readMan_40 rfl rfl ?_
        refine zg_dup (q := 42) C dX3_readMan_41 rfl rfl ?_
        refine zg_get (j := 5) (q := 45) C bX3 (by decide) lkX3_42 dX3_readMan_42 rfl (okI.get v.1) ?_
        have v := v.2
        refine zg_iconst (v := 1) (q := 46) C dX3_readMan_45 (by decide) rfl ?_
        refine zg_iadd (q := 47) C dX3_readMan_46 rfl ?_
        refine zg_put (j := 5) (q := 50) C bX3 (by decide) lkX3_42 dX3_readMan_47 rfl rfl v.1 rfl rfl ?_
        have v := v.2 _ rfl
        refine zg_aload_n (q := 51) C dX3_readMan_50 rfl rfl ?_
        refine zg_dup (q := 52) C dX3_readMan_51 rfl rfl ?_
        refine zg_get (j := 2) (q := 55) C bX3 (by decide) lkX3_48 dX3_readMan_52 rfl (okI.get v.1) ?_
        have v := v.2
        refine zg_iconst (v := 1) (q := 56) C dX3_readMan_55 (by decide) rfl ?_
        refine zg_iadd (q := 57) C dX3_readMan_56 rfl ?_
        refine zg_put (j := 2) (q := 60) C bX3 (by decide) lkX3_48 dX3_readMan_57 rfl rfl v.1 rfl rfl ?_
        have v := v.2 _ rfl
        refine zg_iconst (v := 1) (q := 61) C dX3_readMan_60 (by decide) rfl ?_
        exact zg_zret C rfl dX3_readMan_61 ⟨Nat.le_refl _, Nat.le_refl _⟩ v.1 ⟨_, rfl, v.2⟩
      · have v := v.2 c
        refine zg_iconst (v := 0) (q := 29) C dX3_readMan_28 (by decide) rfl ?_
        exact zg_zret C rfl dX3_readMan_29 ⟨Nat.le_refl _, Nat.le_refl _⟩ v.1 ⟨_, rfl, v.2⟩
theorem rnX3_readMan {E : Wd} {d : Nat} {a0 : Nat} {h : Hp} {Q : Int32 → Hp → Prop} (k : vcX3_readMan_0 E d a0 h Q) : OkI E YX3_readMan (d + 1) [.ref a0] h Q :=
  zz_body2 (r := 1) mX3_readMan (zc_a zc_n) (Nat.le_of_ble_eq_true rfl) (fun X C => zsX3_readMan_0 C a0 h k)
def vcX3_readClause_0 (E : Wd) (d : Nat) (a0 : Nat) (h : Hp) (Q : Int32 → Hp → Prop) : Prop :=
  isO h a0 3 ∧ OkI E YX3_take d [.ref a0, .int 120] h (fun r2 h1 => (r2 = (0 : Int32) → isO h1 a0 3 ∧ OkI E YX3_take d [.ref a0, .int 109] h1 (fun r4 h3 => (r4 = (0 : Int32) → isO h3 a0 3 ∧ OkI E YX3_take d [.ref a0, .int 100] h3 (fun r6 h5 => (r6 = (0 : Int32) → isO h5 a0 3 ∧ OkI E YX3_take d [.ref a0, .int 108] h5 (fun r8 h7 => (r8 = (0 : Int32) → isO h7 a0 3 ∧ OkI E YX3_take d [.ref a0, .int 119] h7 (fun r10 h9 => (r10 = (0 : Int32) → mB 0 ∧ Q 0 h9) ∧ (¬ r10 = (0 : Int32) → okP h9 a0 3 8 ∧ ∀ h11, h11 = pF h9 a0 8 (.int 1) → mB 1 ∧ Q 1 h11))) ∧ (¬ r8 = (0 : Int32) → okP h7 a0 3 8 ∧ ∀ h12, h12 = pF h7 a0 8 (.int ((-1))) → mB 1 ∧ Q 1 h12))) ∧ (¬ r6 = (0 : Int32) → okP h5 a0 3 8 ∧ ∀ h13, h13 = pF h5 a0 8 (.int 0) → mB 1 ∧ Q 1 h13))) ∧ (¬ r4 = (0 : Int32) → isO h3 a0 3 ∧ OkI E YX3_readLimit d [.ref a0] h3 (fun r15 h14 => mB r15 ∧ Q r15 h14)))) ∧ (¬ r2 = (0 : Int32) → isO h1 a0 3 ∧ OkI E YX3_readHoles d [.ref a0] h1 (fun r17 h16 => mB r17 ∧ Q r17 h16)))
set_option maxRecDepth 100000 in
set_option maxHeartbeats 4000000 in
theorem zsX3_readClause_0 {E : Wd} {X : Mx} {d : Nat} {Q : Int32 → Hp → Prop} (C : zz_C E X YX3_readClause (d + 1) 0 0 (fun r h' => ∃ x : Int32, r = some (.int x) ∧ Q x h')) (a0 : Nat) (h : Hp) (v : vcX3_readClause_0 E d a0 h Q) : GG E X 1 0 0 0 [some (.ref a0)] [] h := by
  refine zg_aload_n (q := 1) C dX3_readClause_0 rfl rfl ?_
  refine zg_bipush (v := 120) (q := 3) C dX3_readClause_1 (by decide) rfl ?_
  refine zg_cV1I (q := 6) C mX3_take vX3_take lmX3_35 rfl (bX3).1 v.1 (Nat.le_of_ble_eq_true rfl) ⟨Nat.le_refl _, Nat.le_refl _⟩ dX3_readClause_3 rfl v.2 (fun r2 h1 v => ?_)
  refine zg_if_eq (t := 14) (q := 9) C dX3_readClause_6 (by decide) rfl (fun c => ?_) (fun c => ?_)
  · have v := v.1 c
    refine zg_aload_n (q := 15) C dX3_readClause_14 rfl rfl ?_
    refine zg_bipush (v := 109) (q := 17) C dX3_readClause_15 (by decide) rfl ?_
    refine zg_cV1I (q := 20) C mX3_take vX3_take lmX3_35 rfl (bX3).1 v.1 (Nat.le_of_ble_eq_true rfl) ⟨Nat.le_refl _, Nat.le_refl _⟩ dX3_readClause_17 rfl v.2 (fun r4 h3 v => ?_)
    refine zg_if_eq (t := 28) (q := 23) C dX3_readClause_20 (by decide) rfl (fun c => ?_) (fun c => ?_)
    · have v := v.1 c
      refine zg_aload_n (q := 29) C dX3_readClause_28 rfl rfl ?_
      refine zg_bipush (v := 100) (q := 31) C dX3_readClause_29 (by decide) rfl ?_
      refine zg_cV1I (q := 34) C mX3_take vX3_take lmX3_35 rfl (bX3).1 v.1 (Nat.le_of_ble_eq_true rfl) ⟨Nat.le_refl _, Nat.le_refl _⟩ dX3_readClause_31 rfl v.2 (fun r6 h5 v => ?_)
      refine zg_if_eq (t := 45) (q := 37) C dX3_readClause_34 (by decide) rfl (fun c => ?_) (fun c => ?_)
      · have v := v.1 c
        refine zg_aload_n (q := 46) C dX3_readClause_45 rfl rfl ?_
        refine zg_bipush (v := 108) (q := 48) C dX3_readClause_46 (by decide) rfl ?_
        refine zg_cV1I (q := 51) C mX3_take vX3_take lmX3_35 rfl (bX3).1 v.1 (Nat.le_of_ble_eq_true rfl) ⟨Nat.le_refl _, Nat.le_refl _⟩ dX3_readClause_48 rfl v.2 (fun r8 h7 v => ?_)
        refine zg_if_eq (t := 62) (q := 54) C dX3_readClause_51 (by decide) rfl (fun c => ?_) (fun c => ?_)
        · have v := v.1 c
          refine zg_aload_n (q := 63) C dX3_readClause_62 rfl rfl ?_
          refine zg_bipush (v := 119) (q := 65) C dX3_readClause_63 (by decide) rfl ?_
          refine zg_cV1I (q := 68) C mX3_take vX3_take lmX3_35 rfl (bX3).1 v.1 (Nat.le_of_ble_eq_true rfl) ⟨Nat.le_refl _, Nat.le_refl _⟩ dX3_readClause_65 rfl v.2 (fun r10 h9 v => ?_)
          refine zg_if_eq (t := 79) (q := 71) C dX3_readClause_68 (by decide) rfl (fun c => ?_) (fun c => ?_)
          · have v := v.1 c
            refine zg_iconst (v := 0) (q := 80) C dX3_readClause_79 (by decide) rfl ?_
            exact zg_zret C rfl dX3_readClause_80 ⟨Nat.le_refl _, Nat.le_refl _⟩ v.1 ⟨_, rfl, v.2⟩
          · have v := v.2 c
            refine zg_aload_n (q := 72) C dX3_readClause_71 rfl rfl ?_
            refine zg_iconst (v := 1) (q := 73) C dX3_readClause_72 (by decide) rfl ?_
            refine zg_put (j := 8) (q := 76) C bX3 (by decide) lkX3_87 dX3_readClause_73 rfl rfl v.1 rfl rfl ?_
            have v := v.2 _ rfl
            refine zg_goto (t := 81) C dX3_readClause_76 (by decide) ?_
            refine zg_iconst (v := 1) (q := 82) C dX3_readClause_81 (by decide) rfl ?_
            exact zg_zret C rfl dX3_readClause_82 ⟨Nat.le_refl _, Nat.le_refl _⟩ v.1 ⟨_, rfl, v.2⟩
        · have v := v.2 c
          refine zg_aload_n (q := 55) C dX3_readClause_54 rfl rfl ?_
          refine zg_iconst (v := (-1)) (q := 56) C dX3_readClause_55 (by decide) rfl ?_
          refine zg_put (j := 8) (q := 59) C bX3 (by decide) lkX3_87 dX3_readClause_56 rfl rfl v.1 rfl rfl ?_
          have v := v.2 _ rfl
          refine zg_goto (t := 81) C dX3_readClause_59 (by decide) ?_
          refine zg_iconst (v := 1) (q := 82) C dX3_readClause_81 (by decide) rfl ?_
          exact zg_zret C rfl dX3_readClause_82 ⟨Nat.le_refl _, Nat.le_refl _⟩ v.1 ⟨_, rfl, v.2⟩
      · have v := v.2 c
        refine zg_aload_n (q := 38) C dX3_readClause_37 rfl rfl ?_
        refine zg_iconst (v := 0) (q := 39) C dX3_readClause_38 (by decide) rfl ?_
        refine zg_put (j := 8) (q := 42) C bX3 (by decide) lkX3_87 dX3_readClause_39 rfl rfl v.1 rfl rfl ?_
        have v := v.2 _ rfl
        refine zg_goto (t := 81) C dX3_readClause_42 (by decide) ?_
        refine zg_iconst (v := 1) (q := 82) C dX3_readClause_81 (by decide) rfl ?_
        exact zg_zret C rfl dX3_readClause_82 ⟨Nat.le_refl _, Nat.le_refl _⟩ v.1 ⟨_, rfl, v.2⟩
    · have v := v.2 c
      refine zg_aload_n (q := 24) C dX3_readClause_23 rfl rfl ?_
      refine zg_cV0I (q := 27) C mX3_readLimit vX3_readLimit lmX3_84 rfl (bX3).1 v.1 (Nat.le_of_ble_eq_true rfl) ⟨Nat.le_refl _, Nat.le_refl _⟩ dX3_readClause_24 rfl v.2 (fun r15 h14 v => ?_)
      exact zg_zret C rfl dX3_readClause_27 ⟨Nat.le_refl _, Nat.le_refl _⟩ v.1 ⟨_, rfl, v.2⟩
  · have v := v.2 c
    refine zg_aload_n (q := 10) C dX3_readClause_9 rfl rfl ?_
    refine zg_cV0I (q := 13) C mX3_readHoles vX3_readHoles lmX3_81 rfl (bX3).1 v.1 (Nat.le_of_ble_eq_true rfl) ⟨Nat.le_refl _, Nat.le_refl _⟩ dX3_readClause_10 rfl v.2 (fun r17 h16 v => ?_)
    exact zg_zret C rfl dX3_readClause_13 ⟨Nat.le_refl _, Nat.le_refl _⟩ v.1 ⟨_, rfl, v.2⟩
theorem rnX3_readClause {E : Wd} {d : Nat} {a0 : Nat} {h : Hp} {Q : Int32 → Hp → Prop} (k : vcX3_readClause_0 E d a0 h Q) : OkI E YX3_readClause (d + 1) [.ref a0] h Q :=
  zz_body2 (r := 0) mX3_readClause (zc_a zc_n) (Nat.le_of_ble_eq_true rfl) (fun X C => zsX3_readClause_0 C a0 h k)
def vcX3_readLimit_0 (E : Wd) (d : Nat) (a0 : Nat) (h : Hp) (Q : Int32 → Hp → Prop) : Prop :=
  isO h a0 3 ∧ OkI E YX3_readNumber d [.ref a0] h (fun r2 h1 => ((0 : Int32) ≤ r2 → okP h1 a0 3 9 ∧ ∀ h3, h3 = pF h1 a0 9 (.int r2) → mB 1 ∧ Q 1 h3) ∧ (¬ (0 : Int32) ≤ r2 → mB 0 ∧ Q 0 h1))
set_option maxRecDepth 100000 in
set_option maxHeartbeats 4000000 in
theorem zsX3_readLimit_0 {E : Wd} {X : Mx} {d : Nat} {Q : Int32 → Hp → Prop} (C : zz_C E X YX3_readLimit (d + 1) 0 0 (fun r h' => ∃ x : Int32, r = some (.int x) ∧ Q x h')) (a0 : Nat) (h : Hp) (v : vcX3_readLimit_0 E d a0 h Q) : GG E X 2 0 0 0 [some (.ref a0), none] [] h := by
  refine zg_aload_n (q := 1) C dX3_readLimit_0 rfl rfl ?_
  refine zg_cV0I (q := 4) C mX3_readNumber vX3_readNumber lmX3_90 rfl (bX3).1 v.1 (Nat.le_of_ble_eq_true rfl) ⟨Nat.le_refl _, Nat.le_refl _⟩ dX3_readLimit_1 rfl v.2 (fun r2 h1 v => ?_)
  refine zg_istore_n (q := 5) C dX3_readLimit_4 (by decide) rfl ?_
  refine zg_iload_n (q := 6) C dX3_readLimit_5 rfl rfl ?_
  refine zg_if_ge (t := 11) (q := 9) C dX3_readLimit_6 (by decide) rfl (fun c => ?_) (fun c => ?_)
  · have v := v.1 c
    refine zg_aload_n (q := 12) C dX3_readLimit_11 rfl rfl ?_
    refine zg_iload_n (q := 13) C dX3_readLimit_12 rfl rfl ?_
    refine zg_put (j := 9) (q := 16) C bX3 (by decide) lkX3_9 dX3_readLimit_13 rfl rfl v.1 rfl rfl ?_
    have v := v.2 _ rfl
    refine zg_iconst (v := 1) (q := 17) C dX3_readLimit_16 (by decide) rfl ?_
    exact zg_zret C rfl dX3_readLimit_17 ⟨Nat.le_refl _, Nat.le_refl _⟩ v.1 ⟨_, rfl, v.2⟩
  · have v := v.2 c
    refine zg_iconst (v := 0) (q := 10) C dX3_readLimit_9 (by decide) rfl ?_
    exact zg_zret C rfl dX3_readLimit_10 ⟨Nat.le_refl _, Nat.le_refl _⟩ v.1 ⟨_, rfl, v.2⟩
theorem rnX3_readLimit {E : Wd} {d : Nat} {a0 : Nat} {h : Hp} {Q : Int32 → Hp → Prop} (k : vcX3_readLimit_0 E d a0 h Q) : OkI E YX3_readLimit (d + 1) [.ref a0] h Q :=
  zz_body2 (r := 1) mX3_readLimit (zc_a zc_n) (Nat.le_of_ble_eq_true rfl) (fun X C => zsX3_readLimit_0 C a0 h k)
def vcX3_readHoles_0 (E : Wd) (d : Nat) (K2 : Nat → Int32 → Hp → Prop) (a0 : Nat) (h : Hp) (Q : Int32 → Hp → Prop) : Prop :=
  K2 a0 0 h
def vcX3_readHoles_2 (E : Wd) (d : Nat) (K2 : Nat → Int32 → Hp → Prop) (a0 : Nat) (x1 : Int32) (h : Hp) (Q : Int32 → Hp → Prop) : Prop :=
  ((40 : Int32) ≤ x1 → mB 0 ∧ Q 0 h) ∧ (¬ (40 : Int32) ≤ x1 → okI h a0 3 2 ∧ isO h a0 3 ∧ OkI E YX3_readNumber d [.ref a0] h (fun r2 h1 => ((0 : Int32) ≤ r2 → okI h1 a0 3 3 ∧ okI h1 a0 3 4 ∧ (r2 < ((fI h1 a0 3) * (fI h1 a0 4)) → okI h1 a0 3 7 ∧ okP h1 a0 3 7 ∧ ∀ h3, h3 = pF h1 a0 7 (.int ((fI h1 a0 7) ||| ((1 : Int32) <<< (r2 &&& 31)))) → isO h3 a0 3 ∧ OkI E YX3_take d [.ref a0, .int 44] h3 (fun r5 h4 => (¬ r5 = (0 : Int32) → K2 a0 (x1 + 1) h4) ∧ (r5 = (0 : Int32) → mB 1 ∧ Q 1 h4))) ∧ (¬ r2 < ((fI h1 a0 3) * (fI h1 a0 4)) → okP h1 a0 3 2 ∧ ∀ h6, h6 = pF h1 a0 2 (.int (fI h a0 2)) → mB 0 ∧ Q 0 h6)) ∧ (¬ (0 : Int32) ≤ r2 → mB 0 ∧ Q 0 h1)))
def zkX3_readHoles_2 (E : Wd) (X : Mx) : Nat → Int32 → Hp → Prop := fun a0 x1 h => GG E X 4 0 0 2 [some (.ref a0), some (.int x1), none, none] [] h
set_option maxRecDepth 100000 in
set_option maxHeartbeats 4000000 in
theorem zsX3_readHoles_0 {E : Wd} {X : Mx} {d : Nat} {Q : Int32 → Hp → Prop} (C : zz_C E X YX3_readHoles (d + 1) 0 0 (fun r h' => ∃ x : Int32, r = some (.int x) ∧ Q x h')) (a0 : Nat) (h : Hp) (v : vcX3_readHoles_0 E d (zkX3_readHoles_2 E X) a0 h Q) : GG E X 4 0 0 0 [some (.ref a0), none, none, none] [] h := by
  refine zg_iconst (v := 0) (q := 1) C dX3_readHoles_0 (by decide) rfl ?_
  refine zg_istore_n (q := 2) C dX3_readHoles_1 (by decide) rfl ?_
  exact zg_mask [true, true, false, false] v
set_option maxRecDepth 100000 in
set_option maxHeartbeats 4000000 in
theorem zsX3_readHoles_2 {E : Wd} {X : Mx} {d : Nat} {Q : Int32 → Hp → Prop} (C : zz_C E X YX3_readHoles (d + 1) 0 0 (fun r h' => ∃ x : Int32, r = some (.int x) ∧ Q x h')) (a0 : Nat) (x1 : Int32) (h : Hp) (v : vcX3_readHoles_2 E d (zkX3_readHoles_2 E X) a0 x1 h Q) : GG E X 4 0 0 2 [some (.ref a0), some (.int x1), none, none] [] h := by
  refine zg_iload_n (q := 3) C dX3_readHoles_2 rfl rfl ?_
  refine zg_bipush (v := 40) (q := 5) C dX3_readHoles_3 (by decide) rfl ?_
  refine zg_icmp_ge (t := 73) (q := 8) C dX3_readHoles_5 (by decide) rfl (fun c => ?_) (fun c => ?_)
  · have v := v.1 c
    refine zg_iconst (v := 0) (q := 74) C dX3_readHoles_73 (by decide) rfl ?_
    exact zg_zret C rfl dX3_readHoles_74 ⟨Nat.le_refl _, Nat.le_refl _⟩ v.1 ⟨_, rfl, v.2⟩
  · have v := v.2 c
    refine zg_aload_n (q := 9) C dX3_readHoles_8 rfl rfl ?_
    refine zg_get (j := 2) (q := 12) C bX3 (by decide) lkX3_48 dX3_readHoles_9 rfl (okI.get v.1) ?_
    have v := v.2
    refine zg_istore_n (q := 13) C dX3_readHoles_12 (by decide) rfl ?_
    refine zg_aload_n (q := 14) C dX3_readHoles_13 rfl rfl ?_
    refine zg_cV0I (q := 17) C mX3_readNumber vX3_readNumber lmX3_90 rfl (bX3).1 v.1 (Nat.le_of_ble_eq_true rfl) ⟨Nat.le_refl _, Nat.le_refl _⟩ dX3_readHoles_14 rfl v.2 (fun r2 h1 v => ?_)
    refine zg_istore_n (q := 18) C dX3_readHoles_17 (by decide) rfl ?_
    refine zg_iload_n (q := 19) C dX3_readHoles_18 rfl rfl ?_
    refine zg_if_ge (t := 24) (q := 22) C dX3_readHoles_19 (by decide) rfl (fun c => ?_) (fun c => ?_)
    · have v := v.1 c
      refine zg_iload_n (q := 25) C dX3_readHoles_24 rfl rfl ?_
      refine zg_aload_n (q := 26) C dX3_readHoles_25 rfl rfl ?_
      refine zg_get (j := 3) (q := 29) C bX3 (by decide) lkX3_61 dX3_readHoles_26 rfl (okI.get v.1) ?_
      have v := v.2
      refine zg_aload_n (q := 30) C dX3_readHoles_29 rfl rfl ?_
      refine zg_get (j := 4) (q := 33) C bX3 (by decide) lkX3_64 dX3_readHoles_30 rfl (okI.get v.1) ?_
      have v := v.2
      refine zg_imul (q := 34) C dX3_readHoles_33 rfl ?_
      refine zg_icmp_lt (t := 44) (q := 37) C dX3_readHoles_34 (by decide) rfl (fun c => ?_) (fun c => ?_)
      · have v := v.1 c
        refine zg_aload_n (q := 45) C dX3_readHoles_44 rfl rfl ?_
        refine zg_dup (q := 46) C dX3_readHoles_45 rfl rfl ?_
        refine zg_get (j := 7) (q := 49) C bX3 (by decide) lkX3_93 dX3_readHoles_46 rfl (okI.get v.1) ?_
        have v := v.2
        refine zg_iconst (v := 1) (q := 50) C dX3_readHoles_49 (by decide) rfl ?_
        refine zg_iload_n (q := 51) C dX3_readHoles_50 rfl rfl ?_
        refine zg_ishl (q := 52) C dX3_readHoles_51 rfl ?_
        refine zg_ior (q := 53) C dX3_readHoles_52 rfl ?_
        refine zg_put (j := 7) (q := 56) C bX3 (by decide) lkX3_93 dX3_readHoles_53 rfl rfl v.1 rfl rfl ?_
        have v := v.2 _ rfl
        refine zg_aload_n (q := 57) C dX3_readHoles_56 rfl rfl ?_
        refine zg_bipush (v := 44) (q := 59) C dX3_readHoles_57 (by decide) rfl ?_
        refine zg_cV1I (q := 62) C mX3_take vX3_take lmX3_35 rfl (bX3).1 v.1 (Nat.le_of_ble_eq_true rfl) ⟨Nat.le_refl _, Nat.le_refl _⟩ dX3_readHoles_59 rfl v.2 (fun r5 h4 v => ?_)
        refine zg_if_ne (t := 67) (q := 65) C dX3_readHoles_62 (by decide) rfl (fun c => ?_) (fun c => ?_)
        · have v := v.1 c
          refine zg_iinc (v := 1) (q := 70) C dX3_readHoles_67 rfl (by decide) (by decide) rfl ?_
          refine zg_goto (t := 2) C dX3_readHoles_70 (by decide) ?_
          exact zg_mask [true, true, false, false] v
        · have v := v.2 c
          refine zg_iconst (v := 1) (q := 66) C dX3_readHoles_65 (by decide) rfl ?_
          exact zg_zret C rfl dX3_readHoles_66 ⟨Nat.le_refl _, Nat.le_refl _⟩ v.1 ⟨_, rfl, v.2⟩
      · have v := v.2 c
        refine zg_aload_n (q := 38) C dX3_readHoles_37 rfl rfl ?_
        refine zg_iload_n (q := 39) C dX3_readHoles_38 rfl rfl ?_
        refine zg_put (j := 2) (q := 42) C bX3 (by decide) lkX3_48 dX3_readHoles_39 rfl rfl v.1 rfl rfl ?_
        have v := v.2 _ rfl
        refine zg_iconst (v := 0) (q := 43) C dX3_readHoles_42 (by decide) rfl ?_
        exact zg_zret C rfl dX3_readHoles_43 ⟨Nat.le_refl _, Nat.le_refl _⟩ v.1 ⟨_, rfl, v.2⟩
    · have v := v.2 c
      refine zg_iconst (v := 0) (q := 23) C dX3_readHoles_22 (by decide) rfl ?_
      exact zg_zret C rfl dX3_readHoles_23 ⟨Nat.le_refl _, Nat.le_refl _⟩ v.1 ⟨_, rfl, v.2⟩
theorem rnX3_readHoles {E : Wd} {d : Nat} {a0 : Nat} {h : Hp} {Q : Int32 → Hp → Prop} (k : ∀ (K2 : Nat → Int32 → Hp → Prop),(∀ (a0 : Nat) (x1 : Int32) h, vcX3_readHoles_2 E d K2 a0 x1 h Q → K2 a0 x1 h) → vcX3_readHoles_0 E d K2 a0 h Q) : OkI E YX3_readHoles (d + 1) [.ref a0] h Q :=
  zz_body2 (r := 3) mX3_readHoles (zc_a zc_n) (Nat.le_of_ble_eq_true rfl) (fun X C => zsX3_readHoles_0 C a0 h (k (zkX3_readHoles_2 E X) (fun a0 x1 h v => zsX3_readHoles_2 C a0 x1 h v)))
def vcX3_readNumber_0 (E : Wd) (d : Nat) (a0 : Nat) (h : Hp) (Q : Int32 → Hp → Prop) : Prop :=
  isO h a0 3 ∧ OkI E YX3_digitAhead d [.ref a0] h (fun r2 h1 => ((0 : Int32) ≤ r2 → okI h1 a0 3 2 ∧ okP h1 a0 3 2 ∧ ∀ h3, h3 = pF h1 a0 2 (.int ((fI h1 a0 2) + (1 : Int32))) → isO h3 a0 3 ∧ OkI E YX3_digitAhead d [.ref a0] h3 (fun r5 h4 => (r2 = (0 : Int32) → Q r2 h4) ∧ (¬ r2 = (0 : Int32) → ((0 : Int32) ≤ r5 → okI h4 a0 3 2 ∧ okP h4 a0 3 2 ∧ ∀ h6, h6 = pF h4 a0 2 (.int ((fI h4 a0 2) + (1 : Int32))) → Q ((r2 * (10 : Int32)) + r5) h6) ∧ (¬ (0 : Int32) ≤ r5 → Q r2 h4)))) ∧ (¬ (0 : Int32) ≤ r2 → Q ((-1)) h1))
set_option maxRecDepth 100000 in
set_option maxHeartbeats 4000000 in
theorem zsX3_readNumber_0 {E : Wd} {X : Mx} {d : Nat} {Q : Int32 → Hp → Prop} (C : zz_C E X YX3_readNumber (d + 1) 0 0 (fun r h' => ∃ x : Int32, r = some (.int x) ∧ Q x h')) (a0 : Nat) (h : Hp) (v : vcX3_readNumber_0 E d a0 h Q) : GG E X 3 0 0 0 [some (.ref a0), none, none] [] h := by
  refine zg_aload_n (q := 1) C dX3_readNumber_0 rfl rfl ?_
  refine zg_cV0I (q := 4) C mX3_digitAhead vX3_digitAhead lmX3_58 rfl (bX3).1 v.1 (Nat.le_of_ble_eq_true rfl) ⟨Nat.le_refl _, Nat.le_refl _⟩ dX3_readNumber_1 rfl v.2 (fun r2 h1 v => ?_)
  refine zg_istore_n (q := 5) C dX3_readNumber_4 (by decide) rfl ?_
  refine zg_iload_n (q := 6) C dX3_readNumber_5 rfl rfl ?_
  refine zg_if_ge (t := 11) (q := 9) C dX3_readNumber_6 (by decide) rfl (fun c => ?_) (fun c => ?_)
  · have v := v.1 c
    refine zg_aload_n (q := 12) C dX3_readNumber_11 rfl rfl ?_
    refine zg_dup (q := 13) C dX3_readNumber_12 rfl rfl ?_
    refine zg_get (j := 2) (q := 16) C bX3 (by decide) lkX3_48 dX3_readNumber_13 rfl (okI.get v.1) ?_
    have v := v.2
    refine zg_iconst (v := 1) (q := 17) C dX3_readNumber_16 (by decide) rfl ?_
    refine zg_iadd (q := 18) C dX3_readNumber_17 rfl ?_
    refine zg_put (j := 2) (q := 21) C bX3 (by decide) lkX3_48 dX3_readNumber_18 rfl rfl v.1 rfl rfl ?_
    have v := v.2 _ rfl
    refine zg_aload_n (q := 22) C dX3_readNumber_21 rfl rfl ?_
    refine zg_cV0I (q := 25) C mX3_digitAhead vX3_digitAhead lmX3_58 rfl (bX3).1 v.1 (Nat.le_of_ble_eq_true rfl) ⟨Nat.le_refl _, Nat.le_refl _⟩ dX3_readNumber_22 rfl v.2 (fun r5 h4 v => ?_)
    refine zg_istore_n (q := 26) C dX3_readNumber_25 (by decide) rfl ?_
    refine zg_iload_n (q := 27) C dX3_readNumber_26 rfl rfl ?_
    refine zg_if_eq (t := 34) (q := 30) C dX3_readNumber_27 (by decide) rfl (fun c => ?_) (fun c => ?_)
    · have v := v.1 c
      refine zg_iload_n (q := 35) C dX3_readNumber_34 rfl rfl ?_
      exact zg_iret C rfl dX3_readNumber_35 ⟨Nat.le_refl _, Nat.le_refl _⟩ ⟨_, rfl, v⟩
    · have v := v.2 c
      refine zg_iload_n (q := 31) C dX3_readNumber_30 rfl rfl ?_
      refine zg_if_ge (t := 36) (q := 34) C dX3_readNumber_31 (by decide) rfl (fun c => ?_) (fun c => ?_)
      · have v := v.1 c
        refine zg_aload_n (q := 37) C dX3_readNumber_36 rfl rfl ?_
        refine zg_dup (q := 38) C dX3_readNumber_37 rfl rfl ?_
        refine zg_get (j := 2) (q := 41) C bX3 (by decide) lkX3_48 dX3_readNumber_38 rfl (okI.get v.1) ?_
        have v := v.2
        refine zg_iconst (v := 1) (q := 42) C dX3_readNumber_41 (by decide) rfl ?_
        refine zg_iadd (q := 43) C dX3_readNumber_42 rfl ?_
        refine zg_put (j := 2) (q := 46) C bX3 (by decide) lkX3_48 dX3_readNumber_43 rfl rfl v.1 rfl rfl ?_
        have v := v.2 _ rfl
        refine zg_iload_n (q := 47) C dX3_readNumber_46 rfl rfl ?_
        refine zg_bipush (v := 10) (q := 49) C dX3_readNumber_47 (by decide) rfl ?_
        refine zg_imul (q := 50) C dX3_readNumber_49 rfl ?_
        refine zg_iload_n (q := 51) C dX3_readNumber_50 rfl rfl ?_
        refine zg_iadd (q := 52) C dX3_readNumber_51 rfl ?_
        exact zg_iret C rfl dX3_readNumber_52 ⟨Nat.le_refl _, Nat.le_refl _⟩ ⟨_, rfl, v⟩
      · have v := v.2 c
        refine zg_iload_n (q := 35) C dX3_readNumber_34 rfl rfl ?_
        exact zg_iret C rfl dX3_readNumber_35 ⟨Nat.le_refl _, Nat.le_refl _⟩ ⟨_, rfl, v⟩
  · have v := v.2 c
    refine zg_iconst (v := (-1)) (q := 10) C dX3_readNumber_9 (by decide) rfl ?_
    exact zg_iret C rfl dX3_readNumber_10 ⟨Nat.le_refl _, Nat.le_refl _⟩ ⟨_, rfl, v⟩
theorem rnX3_readNumber {E : Wd} {d : Nat} {a0 : Nat} {h : Hp} {Q : Int32 → Hp → Prop} (k : vcX3_readNumber_0 E d a0 h Q) : OkI E YX3_readNumber (d + 1) [.ref a0] h Q :=
  zz_body2 (r := 2) mX3_readNumber (zc_a zc_n) (Nat.le_of_ble_eq_true rfl) (fun X C => zsX3_readNumber_0 C a0 h k)
