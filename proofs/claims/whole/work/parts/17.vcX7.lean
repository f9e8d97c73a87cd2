def vcX7_init_0 (E : Wd) (d : Nat) (mc ms : Nat) (a0 : Nat) (h : Hp) (Q : Hp → Prop) : Prop :=
  (1 ≤ mc ∧ 40 ≤ ms) ∧ ∀ h1, h1 = nA E h 0 40 → okP h1 a0 7 0 ∧ ∀ h3, h3 = pF h1 a0 0 (.ref (h.1)) → (2 ≤ mc ∧ 42 ≤ ms) ∧ ∀ h4, h4 = nO h3 0 [.null, .int 0] → ∃ c7 s8, (2 + c7 ≤ mc ∧ 42 + s8 ≤ ms) ∧ OkW E YX0_init d c7 s8 [.ref (h3.1)] h4 (fun h6 => okP h6 a0 7 6 ∧ ∀ h10, h10 = pF h6 a0 6 (.ref (h3.1)) → ((2 + c7) + 1 ≤ mc ∧ (42 + s8) + 2 ≤ ms) ∧ ∀ h11, h11 = nO h10 0 [.null, .int 0] → ∃ c14 s15, ((2 + c7) + 1 + c14 ≤ mc ∧ (42 + s8) + 2 + s15 ≤ ms) ∧ OkW E YX0_init d c14 s15 [.ref (h10.1)] h11 (fun h13 => okP h13 a0 7 7 ∧ ∀ h17, h17 = pF h13 a0 7 (.ref (h10.1)) → Q h17))
set_option maxRecDepth 100000 in
set_option maxHeartbeats 4000000 in
theorem zsX7_init_0 {E : Wd} {X : Mx} {d mc ms : Nat} {Q : Hp → Prop} (C : zz_C E X YX7_init (d + 1) mc ms (fun r h' => r = none ∧ Q h')) (a0 : Nat) (h : Hp) (v : vcX7_init_0 E d mc ms a0 h Q) : GG E X 1 0 0 0 [some (.ref a0)] [] h := by
  refine zg_aload_n (q := 1) C dX7_init_0 rfl rfl ?_
  refine zg_objInit (q := 4) C oiX7 rfl (Nat.le_add_left _ _) (Nat.le_of_ble_eq_true rfl) dX7_init_1 rfl ?_
  refine zg_aload_n (q := 5) C dX7_init_4 rfl rfl ?_
  refine zg_bipush (v := 40) (q := 7) C dX7_init_5 (by decide) rfl ?_
  refine zg_newI (m := 40) (q := 9) C ar0 dX7_init_7 rfl (by decide) (by decide) (by decide) v.1 ?_
  have c2 := v.1
  have v := v.2 _ rfl
  refine zg_putF (j := 0) (q := 12) C bX7 (by decide) lkX7_9 dX7_init_9 rfl rfl rfl rfl v.1 rfl rfl ?_
  have v := v.2 _ rfl
  refine zg_aload_n (q := 13) C dX7_init_12 rfl rfl ?_
  refine zg_new (q := 16) (fs := [.null, .int 0]) C bX0 nwX7_13 (by intro j hj; match j, hj with | 0, _ => rfl | 1, _ => rfl) dX7_init_13 rfl v.1 ?_
  have c5 := v.1
  have v := v.2 _ rfl
  refine zg_dup (q := 17) C dX7_init_16 rfl rfl ?_
  obtain ⟨c7, s8, g9, v⟩ := v
  refine zg_cI0WN (q := 20) C mX0_init iX0_init rfl lmX7_15 rfl (Nat.le_of_ble_eq_true rfl) g9 dX7_init_17 rfl v (fun h6 v => ?_)
  refine zg_putF (j := 6) (q := 23) C bX7 (by decide) lkX7_16 dX7_init_20 rfl rfl rfl rfl v.1 rfl rfl ?_
  have v := v.2 _ rfl
  refine zg_aload_n (q := 24) C dX7_init_23 rfl rfl ?_
  refine zg_new (q := 27) (fs := [.null, .int 0]) C bX0 nwX7_13 (by intro j hj; match j, hj with | 0, _ => rfl | 1, _ => rfl) dX7_init_24 rfl v.1 ?_
  have c12 := v.1
  have v := v.2 _ rfl
  refine zg_dup (q := 28) C dX7_init_27 rfl rfl ?_
  obtain ⟨c14, s15, g16, v⟩ := v
  refine zg_cI0WN (q := 31) C mX0_init iX0_init rfl lmX7_15 rfl (Nat.le_of_ble_eq_true rfl) g16 dX7_init_28 rfl v (fun h13 v => ?_)
  refine zg_putF (j := 7) (q := 34) C bX7 (by decide) lkX7_20 dX7_init_31 rfl rfl rfl rfl v.1 rfl rfl ?_
  have v := v.2 _ rfl
  exact zg_vret C rfl dX7_init_34 g16 ⟨rfl, v⟩
theorem rnX7_init {E : Wd} {d mc ms : Nat} {a0 : Nat} {h : Hp} {Q : Hp → Prop} (k : vcX7_init_0 E d mc ms a0 h Q) : OkW E YX7_init (d + 1) mc ms [.ref a0] h Q :=
  zz_body2 (r := 0) mX7_init (zc_a zc_n) (Nat.le_of_ble_eq_true rfl) (fun X C => zsX7_init_0 C a0 h k)
def vcX7_feed_105 (E : Wd) (d : Nat) (a0 : Nat) (x1 : Int32) (x6 : Int32) (h : Hp) (Q : Int32 → Hp → Prop) : Prop :=
  (x1 ≤ (4 : Int32) → okI h a0 7 1 ∧ Q (fI h a0 1) h) ∧ (¬ x1 ≤ (4 : Int32) → isO h a0 7 ∧ OkV E YX7_append d [.ref a0, .int x6] h (fun h1 => okI h1 a0 7 1 ∧ Q (fI h1 a0 1) h1))
def vcX7_feed_94 (E : Wd) (d : Nat) (a0 : Nat) (x1 : Int32) (x5 : Int32) (x6 : Int32) (h : Hp) (Q : Int32 → Hp → Prop) : Prop :=
  (x1 ≤ (3 : Int32) → vcX7_feed_105 E d a0 x1 x6 h Q) ∧ (¬ x1 ≤ (3 : Int32) → isO h a0 7 ∧ OkV E YX7_append d [.ref a0, .int x5] h (fun h1 => vcX7_feed_105 E d a0 x1 x6 h1 Q))
def vcX7_feed_83 (E : Wd) (d : Nat) (a0 : Nat) (x1 : Int32) (x4 : Int32) (x5 : Int32) (x6 : Int32) (h : Hp) (Q : Int32 → Hp → Prop) : Prop :=
  (x1 ≤ (2 : Int32) → vcX7_feed_94 E d a0 x1 x5 x6 h Q) ∧ (¬ x1 ≤ (2 : Int32) → isO h a0 7 ∧ OkV E YX7_append d [.ref a0, .int x4] h (fun h1 => vcX7_feed_94 E d a0 x1 x5 x6 h1 Q))
def vcX7_feed_0 (E : Wd) (d : Nat) (a0 : Nat) (x1 : Int32) (x2 : Int32) (x3 : Int32) (x4 : Int32) (x5 : Int32) (x6 : Int32) (h : Hp) (Q : Int32 → Hp → Prop) : Prop :=
  (x1 < (1 : Int32) → Q ((-2)) h) ∧ (¬ x1 < (1 : Int32) → (x1 ≤ (5 : Int32) → OkI E YX7_isByte d [.int x2] h (fun r2 h1 => (r2 = (0 : Int32) → Q ((-2)) h1) ∧ (¬ r2 = (0 : Int32) → OkI E YX7_isByte d [.int x3] h1 (fun r4 h3 => (r4 = (0 : Int32) → Q ((-2)) h3) ∧ (¬ r4 = (0 : Int32) → OkI E YX7_isByte d [.int x4] h3 (fun r6 h5 => (r6 = (0 : Int32) → Q ((-2)) h5) ∧ (¬ r6 = (0 : Int32) → OkI E YX7_isByte d [.int x5] h5 (fun r8 h7 => (r8 = (0 : Int32) → Q ((-2)) h7) ∧ (¬ r8 = (0 : Int32) → OkI E YX7_isByte d [.int x6] h7 (fun r10 h9 => (¬ r10 = (0 : Int32) → okI h9 a0 7 1 ∧ (((fI h9 a0 1) + x1) ≤ (40 : Int32) → isO h9 a0 7 ∧ OkV E YX7_append d [.ref a0, .int x2] h9 (fun h11 => (x1 ≤ (1 : Int32) → vcX7_feed_83 E d a0 x1 x4 x5 x6 h11 Q) ∧ (¬ x1 ≤ (1 : Int32) → isO h11 a0 7 ∧ OkV E YX7_append d [.ref a0, .int x3] h11 (fun h12 => vcX7_feed_83 E d a0 x1 x4 x5 x6 h12 Q)))) ∧ (¬ ((fI h9 a0 1) + x1) ≤ (40 : Int32) → Q ((-4)) h9)) ∧ (r10 = (0 : Int32) → Q ((-2)) h9))))))))))) ∧ (¬ x1 ≤ (5 : Int32) → Q ((-2)) h))
set_option maxRecDepth 100000 in
set_option maxHeartbeats 4000000 in
theorem zsX7_feed_105 {E : Wd} {X : Mx} {d : Nat} {Q : Int32 → Hp → Prop} (C : zz_C E X YX7_feed (d + 1) 0 0 (fun r h' => ∃ x : Int32, r = some (.int x) ∧ Q x h')) (a0 : Nat) (x1 : Int32) (x6 : Int32) (h : Hp) (v : vcX7_feed_105 E d a0 x1 x6 h Q) : GG E X 7 0 0 105 [some (.ref a0), some (.int x1), none, none, none, none, some (.int x6)] [] h := by
  refine zg_iload_n (q := 106) C dX7_feed_105 rfl rfl ?_
  refine zg_iconst (v := 4) (q := 107) C dX7_feed_106 (by decide) rfl ?_
  refine zg_icmp_le (t := 116) (q := 110) C dX7_feed_107 (by decide) rfl (fun c => ?_) (fun c => ?_)
  · have v := v.1 c
    refine zg_aload_n (q := 117) C dX7_feed_116 rfl rfl ?_
    refine zg_get (j := 1) (q := 120) C bX7 (by decide) lkX7_27 dX7_feed_117 rfl (okI.get v.1) ?_
    have v := v.2
    exact zg_iret C rfl dX7_feed_120 ⟨Nat.le_refl _, Nat.le_refl _⟩ ⟨_, rfl, v⟩
  · have v := v.2 c
    refine zg_aload_n (q := 111) C dX7_feed_110 rfl rfl ?_
    refine zg_iload (q := 113) C dX7_feed_111 rfl rfl ?_
    refine zg_cV1V (q := 116) C mX7_append vX7_append lmX7_31 rfl (bX7).1 v.1 (Nat.le_of_ble_eq_true rfl) ⟨Nat.le_refl _, Nat.le_refl _⟩ dX7_feed_113 rfl v.2 (fun h1 v => ?_)
    refine zg_aload_n (q := 117) C dX7_feed_116 rfl rfl ?_
    refine zg_get (j := 1) (q := 120) C bX7 (by decide) lkX7_27 dX7_feed_117 rfl (okI.get v.1) ?_
    have v := v.2
    exact zg_iret C rfl dX7_feed_120 ⟨Nat.le_refl _, Nat.le_refl _⟩ ⟨_, rfl, v⟩
set_option maxRecDepth 100000 in
set_option maxHeartbeats 4000000 in
theorem zsX7_feed_94 {E : Wd} {X : Mx} {d : Nat} {Q : Int32 → Hp → Prop} (C : zz_C E X YX7_feed (d + 1) 0 0 (fun r h' => ∃ x : Int32, r = some (.int x) ∧ Q x h')) (a0 : Nat) (x1 : Int32) (x5 : Int32) (x6 : Int32) (h : Hp) (v : vcX7_feed_94 E d a0 x1 x5 x6 h Q) : GG E X 7 0 0 94 [some (.ref a0), some (.int x1), none, none, none, some (.int x5), some (.int x6)] [] h := by
  refine zg_iload_n (q := 95) C dX7_feed_94 rfl rfl ?_
  refine zg_iconst (v := 3) (q := 96) C dX7_feed_95 (by decide) rfl ?_
  refine zg_icmp_le (t := 105) (q := 99) C dX7_feed_96 (by decide) rfl (fun c => ?_) (fun c => ?_)
  · have v := v.1 c
    exact zg_mask [true, true, false, false, false, false, true] (zsX7_feed_105 C _ _ _ _ v)
  · have v := v.2 c
    refine zg_aload_n (q := 100) C dX7_feed_99 rfl rfl ?_
    refine zg_iload (q := 102) C dX7_feed_100 rfl rfl ?_
    refine zg_cV1V (q := 105) C mX7_append vX7_append lmX7_31 rfl (bX7).1 v.1 (Nat.le_of_ble_eq_true rfl) ⟨Nat.le_refl _, Nat.le_refl _⟩ dX7_feed_102 rfl v.2 (fun h1 v => ?_)
    exact zg_mask [true, true, false, false, false, false, true] (zsX7_feed_105 C _ _ _ _ v)
set_option maxRecDepth 100000 in
set_option maxHeartbeats 4000000 in
theorem zsX7_feed_83 {E : Wd} {X : Mx} {d : Nat} {Q : Int32 → Hp → Prop} (C : zz_C E X YX7_feed (d + 1) 0 0 (fun r h' => ∃ x : Int32, r = some (.int x) ∧ Q x h')) (a0 : Nat) (x1 : Int32) (x4 : Int32) (x5 : Int32) (x6 : Int32) (h : Hp) (v : vcX7_feed_83 E d a0 x1 x4 x5 x6 h Q) : GG E X 7 0 0 83 [some (.ref a0), some (.int x1), none, none, some (.int x4), some (.int x5), some (.int x6)] [] h := by
  refine zg_iload_n (q := 84) C dX7_feed_83 rfl rfl ?_
  refine zg_iconst (v := 2) (q := 85) C dX7_feed_84 (by decide) rfl ?_
  refine zg_icmp_le (t := 94) (q := 88) C dX7_feed_85 (by decide) rfl (fun c => ?_) (fun c => ?_)
  · have v := v.1 c
    exact zg_mask [true, true, false, false, false, true, true] (zsX7_feed_94 C _ _ _ _ _ v)
  · have v := v.2 c
    refine zg_aload_n (q := 89) C dX7_feed_88 rfl rfl ?_
    refine zg_iload (q := 91) C dX7_feed_89 rfl rfl ?_
    refine zg_cV1V (q := 94) C mX7_append vX7_append lmX7_31 rfl (bX7).1 v.1 (Nat.le_of_ble_eq_true rfl) ⟨Nat.le_refl _, Nat.le_refl _⟩ dX7_feed_91 rfl v.2 (fun h1 v => ?_)
    exact zg_mask [true, true, false, false, false, true, true] (zsX7_feed_94 C _ _ _ _ _ v)
set_option maxRecDepth 100000 in
set_option maxHeartbeats 4000000 in
theorem zsX7_feed_0 {E : Wd} {X : Mx} {d : Nat} {Q : Int32 → Hp → Prop} (C : zz_C E X YX7_feed (d + 1) 0 0 (fun r h' => ∃ x : Int32, r = some (.int x) ∧ Q x h')) (a0 : Nat) (x1 : Int32) (x2 : Int32) (x3 : Int32) (x4 : Int32) (x5 : Int32) (x6 : Int32) (h : Hp) (v : vcX7_feed_0 E d a0 x1 x2 x3 x4 x5 x6 h Q) : GG E X 7 0 0 0 [some (.ref a0), some (.int x1), some (.int x2), some (.int x3), some (.int x4), some (.int x5), some (.int x6)] [] h := by
  refine zg_iload_n (q := 1) C dX7_feed_0 rfl rfl ?_
  refine zg_iconst (v := 1) (q := 2) C dX7_feed_1 (by decide) rfl ?_
  refine zg_icmp_lt (t := 10) (q := 5) C dX7_feed_2 (by decide) rfl (fun c => ?_) (fun c => ?_)
  · have v := v.1 c
    refine zg_bipush (v := (-2)) (q := 12) C dX7_feed_10 (by decide) rfl ?_
    exact zg_iret C rfl dX7_feed_12 ⟨Nat.le_refl _, Nat.le_refl _⟩ ⟨_, rfl, v⟩
  · have v := v.2 c
    refine zg_iload_n (q := 6) C dX7_feed_5 rfl rfl ?_
    refine zg_iconst (v := 5) (q := 7) C dX7_feed_6 (by decide) rfl ?_
    refine zg_icmp_le (t := 13) (q := 10) C dX7_feed_7 (by decide) rfl (fun c => ?_) (fun c => ?_)
    · have v := v.1 c
      refine zg_iload_n (q := 14) C dX7_feed_13 rfl rfl ?_
      refine zg_cS1I (q := 17) C mX7_isByte tX7_isByte lmX7_23 rfl (Nat.le_of_ble_eq_true rfl) ⟨Nat.le_refl _, Nat.le_refl _⟩ dX7_feed_14 rfl v (fun r2 h1 v => ?_)
      refine zg_if_eq (t := 51) (q := 20) C dX7_feed_17 (by decide) rfl (fun c => ?_) (fun c => ?_)
      · have v := v.1 c
        refine zg_bipush (v := (-2)) (q := 53) C dX7_feed_51 (by decide) rfl ?_
        exact zg_iret C rfl dX7_feed_53 ⟨Nat.le_refl _, Nat.le_refl _⟩ ⟨_, rfl, v⟩
      · have v := v.2 c
        refine zg_iload_n (q := 21) C dX7_feed_20 rfl rfl ?_
        refine zg_cS1I (q := 24) C mX7_isByte tX7_isByte lmX7_23 rfl (Nat.le_of_ble_eq_true rfl) ⟨Nat.le_refl _, Nat.le_refl _⟩ dX7_feed_21 rfl v (fun r4 h3 v => ?_)
        refine zg_if_eq (t := 51) (q := 27) C dX7_feed_24 (by decide) rfl (fun c => ?_) (fun c => ?_)
        · have v := v.1 c
          refine zg_bipush (v := (-2)) (q := 53) C dX7_feed_51 (by decide) rfl ?_
          exact zg_iret C rfl dX7_feed_53 ⟨Nat.le_refl _, Nat.le_refl _⟩ ⟨_, rfl, v⟩
        · have v := v.2 c
          refine zg_iload (q := 29) C dX7_feed_27 rfl rfl ?_
          refine zg_cS1I (q := 32) C mX7_isByte tX7_isByte lmX7_23 rfl (Nat.le_of_ble_eq_true rfl) ⟨Nat.le_refl _, Nat.le_refl _⟩ dX7_feed_29 rfl v (fun r6 h5 v => ?_)
          refine zg_if_eq (t := 51) (q := 35) C dX7_feed_32 (by decide) rfl (fun c => ?_) (fun c => ?_)
          · have v := v.1 c
            refine zg_bipush (v := (-2)) (q := 53) C dX7_feed_51 (by decide) rfl ?_
            exact zg_iret C rfl dX7_feed_53 ⟨Nat.le_refl _, Nat.le_refl _⟩ ⟨_, rfl, v⟩
          · have v := v.2 c
            refine zg_iload (q := 37) C dX7_feed_35 rfl rfl ?_
            refine zg_cS1I (q := 40) C mX7_isByte tX7_isByte lmX7_23 rfl (Nat.le_of_ble_eq_true rfl) ⟨Nat.le_refl _, Nat.le_refl _⟩ dX7_feed_37 rfl v (fun r8 h7 v => ?_)
            refine zg_if_eq (t := 51) (q := 43) C dX7_feed_40 (by decide) rfl (fun c => ?_) (fun c => ?_)
            · have v := v.1 c
              refine zg_bipush (v := (-2)) (q := 53) C dX7_feed_51 (by decide) rfl ?_
              exact zg_iret C rfl dX7_feed_53 ⟨Nat.le_refl _, Nat.le_refl _⟩ ⟨_, rfl, v⟩
            · have v := v.2 c
              refine zg_iload (q := 45) C dX7_feed_43 rfl rfl ?_
              refine zg_cS1I (q := 48) C mX7_isByte tX7_isByte lmX7_23 rfl (Nat.le_of_ble_eq_true rfl) ⟨Nat.le_refl _, Nat.le_refl _⟩ dX7_feed_45 rfl v (fun r10 h9 v => ?_)
              refine zg_if_ne (t := 54) (q := 51) C dX7_feed_48 (by decide) rfl (fun c => ?_) (fun c => ?_)
              · have v := v.1 c
                refine zg_aload_n (q := 55) C dX7_feed_54 rfl rfl ?_
                refine zg_get (j := 1) (q := 58) C bX7 (by decide) lkX7_27 dX7_feed_55 rfl (okI.get v.1) ?_
                have v := v.2
                refine zg_iload_n (q := 59) C dX7_feed_58 rfl rfl ?_
                refine zg_iadd (q := 60) C dX7_feed_59 rfl ?_
                refine zg_bipush (v := 40) (q := 62) C dX7_feed_60 (by decide) rfl ?_
                refine zg_icmp_le (t := 68) (q := 65) C dX7_feed_62 (by decide) rfl (fun c => ?_) (fun c => ?_)
                · have v := v.1 c
                  refine zg_aload_n (q := 69) C dX7_feed_68 rfl rfl ?_
                  refine zg_iload_n (q := 70) C dX7_feed_69 rfl rfl ?_
                  refine zg_cV1V (q := 73) C mX7_append vX7_append lmX7_31 rfl (bX7).1 v.1 (Nat.le_of_ble_eq_true rfl) ⟨Nat.le_refl _, Nat.le_refl _⟩ dX7_feed_70 rfl v.2 (fun h11 v => ?_)
                  refine zg_iload_n (q := 74) C dX7_feed_73 rfl rfl ?_
                  refine zg_iconst (v := 1) (q := 75) C dX7_feed_74 (by decide) rfl ?_
                  refine zg_icmp_le (t := 83) (q := 78) C dX7_feed_75 (by decide) rfl (fun c => ?_) (fun c => ?_)
                  · have v := v.1 c
                    exact zg_mask [true, true, false, false, true, true, true] (zsX7_feed_83 C _ _ _ _ _ _ v)
                  · have v := v.2 c
                    refine zg_aload_n (q := 79) C dX7_feed_78 rfl rfl ?_
                    refine zg_iload_n (q := 80) C dX7_feed_79 rfl rfl ?_
                    refine zg_cV1V (q := 83) C mX7_append vX7_append lmX7_31 rfl (bX7).1 v.1 (Nat.le_of_ble_eq_true rfl) ⟨Nat.le_refl _, Nat.le_refl _⟩ dX7_feed_80 rfl v.2 (fun h12 v => ?_)
                    exact zg_mask [true, true, false, false, true, true, true] (zsX7_feed_83 C _ _ _ _ _ _ v)
                · have v := v.2 c
                  refine zg_bipush (v := (-4)) (q := 67) C dX7_feed_65 (by decide) rfl ?_
                  exact zg_iret C rfl dX7_feed_67 ⟨Nat.le_refl _, Nat.le_refl _⟩ ⟨_, rfl, v⟩
              · have v := v.2 c
                refine zg_bipush (v := (-2)) (q := 53) C dX7_feed_51 (by decide) rfl ?_
                exact zg_iret C rfl dX7_feed_53 ⟨Nat.le_refl _, Nat.le_refl _⟩ ⟨_, rfl, v⟩
    · have v := v.2 c
      refine zg_bipush (v := (-2)) (q := 12) C dX7_feed_10 (by decide) rfl ?_
      exact zg_iret C rfl dX7_feed_12 ⟨Nat.le_refl _, Nat.le_refl _⟩ ⟨_, rfl, v⟩
theorem rnX7_feed {E : Wd} {d : Nat} {a0 : Nat} {x1 : Int32} {x2 : Int32} {x3 : Int32} {x4 : Int32} {x5 : Int32} {x6 : Int32} {h : Hp} {Q : Int32 → Hp → Prop} (k : vcX7_feed_0 E d a0 x1 x2 x3 x4 x5 x6 h Q) : OkI E YX7_feed (d + 1) [.ref a0, .int x1, .int x2, .int x3, .int x4, .int x5, .int x6] h Q :=
  zz_body2 (r := 0) mX7_feed (zc_a (zc_i (zc_i (zc_i (zc_i (zc_i (zc_i zc_n))))))) (Nat.le_of_ble_eq_true rfl) (fun X C => zsX7_feed_0 C a0 x1 x2 x3 x4 x5 x6 h k)
def vcX7_define_0 (E : Wd) (d : Nat) (mc ms : Nat) (a0 : Nat) (h : Hp) (Q : Int32 → Hp → Prop) : Prop :=
  (1 ≤ mc ∧ 11 ≤ ms) ∧ ∀ h1, h1 = nO h 3 [.null, .int 0, .int 0, .int 0, .int 0, .int 0, .int 0, .int 0, .int 0, .int 0, .null] → okA h1 a0 7 0 ∧ okI h1 a0 7 1 ∧ ∃ c4 s5, (1 + c4 ≤ mc ∧ 11 + s5 ≤ ms) ∧ OkW E YX3_init d c4 s5 [.ref (h.1), .ref (fA h1 a0 0), .int (fI h1 a0 1)] h1 (fun h3 => okP h3 a0 7 1 ∧ ∀ h7, h7 = pF h3 a0 1 (.int 0) → isO h7 (h.1) 3 ∧ OkI E YX3_isGame d [.ref (h.1)] h7 (fun r9 h8 => (¬ r9 = (0 : Int32) → isO h8 a0 7 ∧ ∃ c11 s12, ((1 + c4) + c11 ≤ mc ∧ (11 + s5) + s12 ≤ ms) ∧ OkN E YX7_freeTable d c11 s12 [.ref a0] h8 (fun r14 h10 => ∃ z15, r14 = some z15 ∧ (((1 + c4) + c11) + 1 ≤ mc ∧ ((11 + s5) + s12) + 13 ≤ ms) ∧ ∀ h16, h16 = nO h10 4 [.int 0, .int 0, .int 0, .int 0, .int 0, .int 0, .int 0, .int 0, .int 0, .int 0, .int 0, .null, .null] → ∃ c19 s20, (((1 + c4) + c11) + 1 + c19 ≤ mc ∧ ((11 + s5) + s12) + 13 + s20 ≤ ms) ∧ OkW E YX4_init d c19 s20 [.ref (h10.1), .ref (h.1)] h16 (fun h18 => isO h18 z15 6 ∧ ∃ c23 s24, ((((1 + c4) + c11) + 1 + c19) + c23 ≤ mc ∧ (((11 + s5) + s12) + 13 + s20) + s24 ≤ ms) ∧ OkW E YX6_build d c23 s24 [.ref z15, .ref (h10.1)] h18 (fun h22 => okP h22 a0 7 4 ∧ ∀ h26, h26 = pF h22 a0 4 (.ref z15) → okA h26 a0 7 6 ∧ isO h26 (fA h26 a0 6) 0 ∧ OkV E YX0_clear d [.ref (fA h26 a0 6)] h26 (fun h27 => okA h27 z15 6 8 ∧ okI h27 (fA h27 z15 8) 4 4 ∧ OkI E YJ6_bitCount_0f7a4 d [.int (fI h27 (fA h27 z15 8) 4)] h27 (fun r29 h28 => Q r29 h28)))))) ∧ (r9 = (0 : Int32) → okI h8 (h.1) 3 2 ∧ Q ((-100 : Int32) - (fI h8 (h.1) 2)) h8)))
set_option maxRecDepth 100000 in
set_option maxHeartbeats 4000000 in
theorem zsX7_define_0 {E : Wd} {X : Mx} {d mc ms : Nat} {Q : Int32 → Hp → Prop} (C : zz_C E X YX7_define (d + 1) mc ms (fun r h' => ∃ x : Int32, r = some (.int x) ∧ Q x h')) (a0 : Nat) (h : Hp) (v : vcX7_define_0 E d mc ms a0 h Q) : GG E X 3 0 0 0 [some (.ref a0), none, none] [] h := by
  refine zg_new (q := 3) (fs := [.null, .int 0, .int 0, .int 0, .int 0, .int 0, .int 0, .int 0, .int 0, .int 0, .null]) C bX3 nwX7_35 (by intro j hj; match j, hj with | 0, _ => rfl | 1, _ => rfl | 2, _ => rfl | 3, _ => rfl | 4, _ => rfl | 5, _ => rfl | 6, _ => rfl | 7, _ => rfl | 8, _ => rfl | 9, _ => rfl | 10, _ => rfl) dX7_define_0 rfl v.1 ?_
  have c2 := v.1
  have v := v.2 _ rfl
  refine zg_dup (q := 4) C dX7_define_3 rfl rfl ?_
  refine zg_aload_n (q := 5) C dX7_define_4 rfl rfl ?_
  refine zg_get (j := 0) (q := 8) C bX7 (by decide) lkX7_9 dX7_define_5 rfl (okA.get v.1) ?_
  have v := v.2
  refine zg_aload_n (q := 9) C dX7_define_8 rfl rfl ?_
  refine zg_get (j := 1) (q := 12) C bX7 (by decide) lkX7_27 dX7_define_9 rfl (okI.get v.1) ?_
  have v := v.2
  obtain ⟨c4, s5, g6, v⟩ := v
  refine zg_cI2W (q := 15) C mX3_init iX3_init rfl lmX7_37 rfl (Nat.le_of_ble_eq_true rfl) g6 dX7_define_12 rfl v (fun h3 v => ?_)
  refine zg_astore_n (q := 16) C dX7_define_15 (by decide) rfl ?_
  refine zg_aload_n (q := 17) C dX7_define_16 rfl rfl ?_
  refine zg_iconst (v := 0) (q := 18) C dX7_define_17 (by decide) rfl ?_
  refine zg_put (j := 1) (q := 21) C bX7 (by decide) lkX7_27 dX7_define_18 rfl rfl v.1 rfl rfl ?_
  have v := v.2 _ rfl
  refine zg_aload_n (q := 22) C dX7_define_21 rfl rfl ?_
  refine zg_cV0I (q := 25) C mX3_isGame vX3_isGame lmX7_40 rfl (bX3).1 v.1 (Nat.le_of_ble_eq_true rfl) g6 dX7_define_22 rfl v.2 (fun r9 h8 v => ?_)
  refine zg_if_ne (t := 36) (q := 28) C dX7_define_25 (by decide) rfl (fun c => ?_) (fun c => ?_)
  · have v := v.1 c
    refine zg_aload_n (q := 37) C dX7_define_36 rfl rfl ?_
    have w := v.1
    obtain ⟨c11, s12, g13, v⟩ := v.2
    refine zg_cV0N (q := 40) C mX7_freeTable vX7_freeTable lmX7_47 rfl (bX7).1 w (Nat.le_of_ble_eq_true rfl) g13 dX7_define_37 rfl v (fun r14 h10 v => ?_)
    obtain ⟨z15, e, v⟩ := v
    subst e
    refine zg_astore_n (q := 41) C dX7_define_40 (by decide) rfl ?_
    refine zg_aload_n (q := 42) C dX7_define_41 rfl rfl ?_
    refine zg_new (q := 45) (fs := [.int 0, .int 0, .int 0, .int 0, .int 0, .int 0, .int 0, .int 0, .int 0, .int 0, .int 0, .null, .null]) C bX4 nwX7_51 (by intro j hj; match j, hj with | 0, _ => rfl | 1, _ => rfl | 2, _ => rfl | 3, _ => rfl | 4, _ => rfl | 5, _ => rfl | 6, _ => rfl | 7, _ => rfl | 8, _ => rfl | 9, _ => rfl | 10, _ => rfl | 11, _ => rfl | 12, _ => rfl) dX7_define_42 rfl v.1 ?_
    have c17 := v.1
    have v := v.2 _ rfl
    refine zg_dup (q := 46) C dX7_define_45 rfl rfl ?_
    refine zg_aload_n (q := 47) C dX7_define_46 rfl rfl ?_
    obtain ⟨c19, s20, g21, v⟩ := v
    refine zg_cI1W (q := 50) C mX4_init iX4_init rfl lmX7_53 rfl (Nat.le_of_ble_eq_true rfl) g21 dX7_define_47 rfl v (fun h18 v => ?_)
    have w := v.1
    obtain ⟨c23, s24, g25, v⟩ := v.2
    refine zg_cV1W (q := 53) C mX6_build vX6_build lmX7_56 rfl (bX6).1 w (Nat.le_of_ble_eq_true rfl) g25 dX7_define_50 rfl v (fun h22 v => ?_)
    refine zg_aload_n (q := 54) C dX7_define_53 rfl rfl ?_
    refine zg_aload_n (q := 55) C dX7_define_54 rfl rfl ?_
    refine zg_put (j := 4) (q := 58) C bX7 (by decide) lkX7_62 dX7_define_55 rfl rfl v.1 rfl rfl ?_
    have v := v.2 _ rfl
    refine zg_aload_n (q := 59) C dX7_define_58 rfl rfl ?_
    refine zg_get (j := 6) (q := 62) C bX7 (by decide) lkX7_16 dX7_define_59 rfl (okA.get v.1) ?_
    have v := v.2
    refine zg_cV0V (q := 65) C mX0_clear vX0_clear lmX7_66 rfl (bX0).1 v.1 (Nat.le_of_ble_eq_true rfl) g25 dX7_define_62 rfl v.2 (fun h27 v => ?_)
    refine zg_aload_n (q := 66) C dX7_define_65 rfl rfl ?_
    refine zg_getN (j := 8) (q := 69) C bX6 (by decide) lkX7_69 dX7_define_66 rfl (okA.get v.1) ?_
    have v := v.2
    refine zg_getN (j := 4) (q := 72) C bX4 (by decide) lkX7_73 dX7_define_69 rfl (okI.get v.1) ?_
    have v := v.2
    refine zg_cS1I (q := 75) C mJ6_bitCount_0f7a4 tJ6_bitCount_0f7a4 lmX7_76 rfl (Nat.le_of_ble_eq_true rfl) g25 dX7_define_72 rfl v (fun r29 h28 v => ?_)
    exact zg_iret C rfl dX7_define_75 g25 ⟨_, rfl, v⟩
  · have v := v.2 c
    refine zg_bipush (v := (-100)) (q := 30) C dX7_define_28 (by decide) rfl ?_
    refine zg_aload_n (q := 31) C dX7_define_30 rfl rfl ?_
    refine zg_getN (j := 2) (q := 34) C bX3 (by decide) lkX7_44 dX7_define_31 rfl (okI.get v.1) ?_
    have v := v.2
    refine zg_isub (q := 35) C dX7_define_34 rfl ?_
    exact zg_iret C rfl dX7_define_35 g6 ⟨_, rfl, v⟩
theorem rnX7_define {E : Wd} {d mc ms : Nat} {a0 : Nat} {h : Hp} {Q : Int32 → Hp → Prop} (k : vcX7_define_0 E d mc ms a0 h Q) : OkJ E YX7_define (d + 1) mc ms [.ref a0] h Q :=
  zz_body2 (r := 2) mX7_define (zc_a zc_n) (Nat.le_of_ble_eq_true rfl) (fun X C => zsX7_define_0 C a0 h k)
def vcX7_game_0 (E : Wd) (d : Nat) (a0 : Nat) (x1 : Int32) (h : Hp) (Q : Int32 → Hp → Prop) : Prop :=
  okN h a0 7 4 ∧ (∀ z, (fN h a0 4) = some z → okA h a0 7 4 ∧ okA h (fA h a0 4) 6 8 ∧ (x1 = (0 : Int32) → okI h (fA h (fA h a0 4) 8) 4 0 ∧ Q (fI h (fA h (fA h a0 4) 8) 0) h) ∧ (¬ x1 = (0 : Int32) → (x1 = (1 : Int32) → okI h (fA h (fA h a0 4) 8) 4 1 ∧ Q (fI h (fA h (fA h a0 4) 8) 1) h) ∧ (¬ x1 = (1 : Int32) → (x1 = (2 : Int32) → okI h (fA h (fA h a0 4) 8) 4 5 ∧ Q (fI h (fA h (fA h a0 4) 8) 5) h) ∧ (¬ x1 = (2 : Int32) → (x1 = (3 : Int32) → okI h (fA h (fA h a0 4) 8) 4 6 ∧ Q (fI h (fA h (fA h a0 4) 8) 6) h) ∧ (¬ x1 = (3 : Int32) → (x1 = (4 : Int32) → okI h (fA h (fA h a0 4) 8) 4 3 ∧ Q (fI h (fA h (fA h a0 4) 8) 3) h) ∧ (¬ x1 = (4 : Int32) → (x1 = (5 : Int32) → okI h (fA h (fA h a0 4) 8) 4 7 ∧ Q (fI h (fA h (fA h a0 4) 8) 7) h) ∧ (¬ x1 = (5 : Int32) → (x1 = (6 : Int32) → okI h (fA h (fA h a0 4) 8) 4 8 ∧ Q (fI h (fA h (fA h a0 4) 8) 8) h) ∧ (¬ x1 = (6 : Int32) → (x1 = (7 : Int32) → okA h a0 7 4 ∧ okA h (fA h a0 4) 6 9 ∧ okI h (fA h (fA h a0 4) 9) 5 2 ∧ Q (fI h (fA h (fA h a0 4) 9) 2) h) ∧ (¬ x1 = (7 : Int32) → (x1 = (8 : Int32) → okA h a0 7 4 ∧ okI h (fA h a0 4) 6 11 ∧ Q (fI h (fA h a0 4) 11) h) ∧ (¬ x1 = (8 : Int32) → isO h (fA h (fA h a0 4) 8) 4 ∧ OkI E YX4_kindOf d [.ref (fA h (fA h a0 4) 8), .int (x1 - (10 : Int32))] h (fun r2 h1 => Q r2 h1))))))))))) ∧ ((fN h a0 4) = none → Q ((-3)) h)
set_option maxRecDepth 100000 in
set_option maxHeartbeats 4000000 in
theorem zsX7_game_0 {E : Wd} {X : Mx} {d : Nat} {Q : Int32 → Hp → Prop} (C : zz_C E X YX7_game (d + 1) 0 0 (fun r h' => ∃ x : Int32, r = some (.int x) ∧ Q x h')) (a0 : Nat) (x1 : Int32) (h : Hp) (v : vcX7_game_0 E d a0 x1 h Q) : GG E X 3 0 0 0 [some (.ref a0), some (.int x1), none] [] h := by
  refine zg_aload_n (q := 1) C dX7_game_0 rfl rfl ?_
  refine zg_get (j := 4) (q := 4) C bX7 (by decide) lkX7_62 dX7_game_1 rfl (okN.get v.1) ?_
  have v := v.2
  refine zg_nonnull (t := 10) (q := 7) C dX7_game_4 (by decide) rfl (fun z c => ?_) (fun c => ?_)
  · have v := v.1 z c
    refine zg_aload_n (q := 11) C dX7_game_10 rfl rfl ?_
    refine zg_get (j := 4) (q := 14) C bX7 (by decide) lkX7_62 dX7_game_11 rfl (okA.get v.1) ?_
    have v := v.2
    refine zg_getN (j := 8) (q := 17) C bX6 (by decide) lkX7_69 dX7_game_14 rfl (okA.get v.1) ?_
    have v := v.2
    refine zg_astore_n (q := 18) C dX7_game_17 (by decide) rfl ?_
    refine zg_iload_n (q := 19) C dX7_game_18 rfl rfl ?_
    by_cases c0 : x1 = (0 : Int32)
    · have v := v.1 c0
      refine zg_tabC (t := 68) (off := 49) C dX7_game_19 c0 (by decide) (by decide) (by decide) (by decide) ?_
      refine zg_aload_n (q := 69) C dX7_game_68 rfl rfl ?_
      refine zg_getN (j := 0) (q := 72) C bX4 (by decide) lkX7_82 dX7_game_69 rfl (okI.get v.1) ?_
      have v := v.2
      exact zg_iret C rfl dX7_game_72 ⟨Nat.le_refl _, Nat.le_refl _⟩ ⟨_, rfl, v⟩
    · have v := v.2 c0
      by_cases c1 : x1 = (1 : Int32)
      · have v := v.1 c1
        refine zg_tabC (t := 73) (off := 54) C dX7_game_19 c1 (by decide) (by decide) (by decide) (by decide) ?_
        refine zg_aload_n (q := 74) C dX7_game_73 rfl rfl ?_
        refine zg_getN (j := 1) (q := 77) C bX4 (by decide) lkX7_85 dX7_game_74 rfl (okI.get v.1) ?_
        have v := v.2
        exact zg_iret C rfl dX7_game_77 ⟨Nat.le_refl _, Nat.le_refl _⟩ ⟨_, rfl, v⟩
      · have v := v.2 c1
        by_cases c2 : x1 = (2 : Int32)
        · have v := v.1 c2
          refine zg_tabC (t := 78) (off := 59) C dX7_game_19 c2 (by decide) (by decide) (by decide) (by decide) ?_
          refine zg_aload_n (q := 79) C dX7_game_78 rfl rfl ?_
          refine zg_getN (j := 5) (q := 82) C bX4 (by decide) lkX7_88 dX7_game_79 rfl (okI.get v.1) ?_
          have v := v.2
          exact zg_iret C rfl dX7_game_82 ⟨Nat.le_refl _, Nat.le_refl _⟩ ⟨_, rfl, v⟩
        · have v := v.2 c2
          by_cases c3 : x1 = (3 : Int32)
          · have v := v.1 c3
            refine zg_tabC (t := 83) (off := 64) C dX7_game_19 c3 (by decide) (by decide) (by decide) (by decide) ?_
            refine zg_aload_n (q := 84) C dX7_game_83 rfl rfl ?_
            refine zg_getN (j := 6) (q := 87) C bX4 (by decide) lkX7_91 dX7_game_84 rfl (okI.get v.1) ?_
            have v := v.2
            exact zg_iret C rfl dX7_game_87 ⟨Nat.le_refl _, Nat.le_refl _⟩ ⟨_, rfl, v⟩
          · have v := v.2 c3
            by_cases c4 : x1 = (4 : Int32)
            · have v := v.1 c4
              refine zg_tabC (t := 88) (off := 69) C dX7_game_19 c4 (by decide) (by decide) (by decide) (by decide) ?_
              refine zg_aload_n (q := 89) C dX7_game_88 rfl rfl ?_
              refine zg_getN (j := 3) (q := 92) C bX4 (by decide) lkX7_94 dX7_game_89 rfl (okI.get v.1) ?_
              have v := v.2
              exact zg_iret C rfl dX7_game_92 ⟨Nat.le_refl _, Nat.le_refl _⟩ ⟨_, rfl, v⟩
            · have v := v.2 c4
              by_cases c5 : x1 = (5 : Int32)
              · have v := v.1 c5
                refine zg_tabC (t := 93) (off := 74) C dX7_game_19 c5 (by decide) (by decide) (by decide) (by decide) ?_
                refine zg_aload_n (q := 94) C dX7_game_93 rfl rfl ?_
                refine zg_getN (j := 7) (q := 97) C bX4 (by decide) lkX7_97 dX7_game_94 rfl (okI.get v.1) ?_
                have v := v.2
                exact zg_iret C rfl dX7_game_97 ⟨Nat.le_refl _, Nat.le_refl _⟩ ⟨_, rfl, v⟩
              · have v := v.2 c5
                by_cases c6 : x1 = (6 : Int32)
                · have v := v.1 c6
                  refine zg_tabC (t := 98) (off := 79) C dX7_game_19 c6 (by decide) (by decide) (by decide) (by decide) ?_
                  refine zg_aload_n (q := 99) C dX7_game_98 rfl rfl ?_
                  refine zg_getN (j := 8) (q := 102) C bX4 (by decide) lkX7_100 dX7_game_99 rfl (okI.get v.1) ?_
                  have v := v.2
                  exact zg_iret C rfl dX7_game_102 ⟨Nat.le_refl _, Nat.le_refl _⟩ ⟨_, rfl, v⟩
                · have v := v.2 c6
                  by_cases c7 : x1 = (7 : Int32)
                  · have v := v.1 c7
                    refine zg_tabC (t := 103) (off := 84) C dX7_game_19 c7 (by decide) (by decide) (by decide) (by decide) ?_
                    refine zg_aload_n (q := 104) C dX7_game_103 rfl rfl ?_
                    refine zg_get (j := 4) (q := 107) C bX7 (by decide) lkX7_62 dX7_game_104 rfl (okA.get v.1) ?_
                    have v := v.2
                    refine zg_getN (j := 9) (q := 110) C bX6 (by decide) lkX7_103 dX7_game_107 rfl (okA.get v.1) ?_
                    have v := v.2
                    refine zg_getN (j := 2) (q := 113) C bX5 (by decide) lkX7_107 dX7_game_110 rfl (okI.get v.1) ?_
                    have v := v.2
                    exact zg_iret C rfl dX7_game_113 ⟨Nat.le_refl _, Nat.le_refl _⟩ ⟨_, rfl, v⟩
                  · have v := v.2 c7
                    by_cases c8 : x1 = (8 : Int32)
                    · have v := v.1 c8
                      refine zg_tabC (t := 114) (off := 95) C dX7_game_19 c8 (by decide) (by decide) (by decide) (by decide) ?_
                      refine zg_aload_n (q := 115) C dX7_game_114 rfl rfl ?_
                      refine zg_get (j := 4) (q := 118) C bX7 (by decide) lkX7_62 dX7_game_115 rfl (okA.get v.1) ?_
                      have v := v.2
                      refine zg_getN (j := 11) (q := 121) C bX6 (by decide) lkX7_112 dX7_game_118 rfl (okI.get v.1) ?_
                      have v := v.2
                      exact zg_iret C rfl dX7_game_121 ⟨Nat.le_refl _, Nat.le_refl _⟩ ⟨_, rfl, v⟩
                    · have v := v.2 c8
                      refine zg_tabD (t := 122) (cnt := 9) C dX7_game_19 (fun j hj => by match j, hj with | 0, _ => exact c0 | 1, _ => exact c1 | 2, _ => exact c2 | 3, _ => exact c3 | 4, _ => exact c4 | 5, _ => exact c5 | 6, _ => exact c6 | 7, _ => exact c7 | 8, _ => exact c8) rfl (by decide) ?_
                      refine zg_aload_n (q := 123) C dX7_game_122 rfl rfl ?_
                      refine zg_iload_n (q := 124) C dX7_game_123 rfl rfl ?_
                      refine zg_bipush (v := 10) (q := 126) C dX7_game_124 (by decide) rfl ?_
                      refine zg_isub (q := 127) C dX7_game_126 rfl ?_
                      refine zg_cV1I (q := 130) C mX4_kindOf vX4_kindOf lmX7_115 rfl (bX4).1 v.1 (Nat.le_of_ble_eq_true rfl) ⟨Nat.le_refl _, Nat.le_refl _⟩ dX7_game_127 rfl v.2 (fun r2 h1 v => ?_)
                      exact zg_iret C rfl dX7_game_130 ⟨Nat.le_refl _, Nat.le_refl _⟩ ⟨_, rfl, v⟩
  · have v := v.2 c
    refine zg_bipush (v := (-3)) (q := 9) C dX7_game_7 (by decide) rfl ?_
    exact zg_iret C rfl dX7_game_9 ⟨Nat.le_refl _, Nat.le_refl _⟩ ⟨_, rfl, v⟩
theorem rnX7_game {E : Wd} {d : Nat} {a0 : Nat} {x1 : Int32} {h : Hp} {Q : Int32 → Hp → Prop} (k : vcX7_game_0 E d a0 x1 h Q) : OkI E YX7_game (d + 1) [.ref a0, .int x1] h Q :=
  zz_body2 (r := 1) mX7_game (zc_a (zc_i zc_n)) (Nat.le_of_ble_eq_true rfl) (fun X C => zsX7_game_0 C a0 x1 h k)
def vcX7_setup_0 (E : Wd) (d : Nat) (a0 : Nat) (x1 : Int32) (x2 : Int32) (x3 : Int32) (x4 : Int32) (h : Hp) (Q : Int32 → Hp → Prop) : Prop :=
  okN h a0 7 4 ∧ (∀ z, (fN h a0 4) = some z → okA h a0 7 4 ∧ okA h (fA h a0 4) 6 8 ∧ (x4 < (0 : Int32) → Q ((-2)) h) ∧ (¬ x4 < (0 : Int32) → (x4 ≤ (1 : Int32) → isO h (fA h (fA h a0 4) 8) 4 ∧ OkI E YX4_canTell d [.ref (fA h (fA h a0 4) 8), .int 0, .int x1] h (fun r2 h1 => (r2 = (0 : Int32) → Q ((-2)) h1) ∧ (¬ r2 = (0 : Int32) → isO h1 (fA h (fA h a0 4) 8) 4 ∧ OkI E YX4_canTell d [.ref (fA h (fA h a0 4) 8), .int 1, .int x2] h1 (fun r4 h3 => (r4 = (0 : Int32) → Q ((-2)) h3) ∧ (¬ r4 = (0 : Int32) → isO h3 (fA h (fA h a0 4) 8) 4 ∧ OkI E YX4_canTell d [.ref (fA h (fA h a0 4) 8), .int 2, .int x3] h3 (fun r6 h5 => (¬ r6 = (0 : Int32) → isO h5 (fA h (fA h a0 4) 8) 4 ∧ OkI E YX4_indexOf d [.ref (fA h (fA h a0 4) 8), .int x1, .int x2, .int x3, .int x4] h5 (fun r8 h7 => okA h7 a0 7 4 ∧ isO h7 (fA h7 a0 4) 6 ∧ OkI E YX6_isPossible d [.ref (fA h7 a0 4), .int r8] h7 (fun r10 h9 => (¬ r10 = (0 : Int32) → okA h9 a0 7 6 ∧ isO h9 (fA h9 a0 6) 0 ∧ OkV E YX0_begin d [.ref (fA h9 a0 6), .int r8] h9 (fun h11 => Q r8 h11)) ∧ (r10 = (0 : Int32) → Q ((-5)) h9)))) ∧ (r6 = (0 : Int32) → Q ((-2)) h5))))))) ∧ (¬ x4 ≤ (1 : Int32) → Q ((-2)) h))) ∧ ((fN h a0 4) = none → Q ((-3)) h)
set_option maxRecDepth 100000 in
set_option maxHeartbeats 4000000 in
theorem zsX7_setup_0 {E : Wd} {X : Mx} {d : Nat} {Q : Int32 → Hp → Prop} (C : zz_C E X YX7_setup (d + 1) 0 0 (fun r h' => ∃ x : Int32, r = some (.int x) ∧ Q x h')) (a0 : Nat) (x1 : Int32) (x2 : Int32) (x3 : Int32) (x4 : Int32) (h : Hp) (v : vcX7_setup_0 E d a0 x1 x2 x3 x4 h Q) : GG E X 7 0 0 0 [some (.ref a0), some (.int x1), some (.int x2), some (.int x3), some (.int x4), none, none] [] h := by
  refine zg_aload_n (q := 1) C dX7_setup_0 rfl rfl ?_
  refine zg_get (j := 4) (q := 4) C bX7 (by decide) lkX7_62 dX7_setup_1 rfl (okN.get v.1) ?_
  have v := v.2
  refine zg_nonnull (t := 10) (q := 7) C dX7_setup_4 (by decide) rfl (fun z c => ?_) (fun c => ?_)
  · have v := v.1 z c
    refine zg_aload_n (q := 11) C dX7_setup_10 rfl rfl ?_
    refine zg_get (j := 4) (q := 14) C bX7 (by decide) lkX7_62 dX7_setup_11 rfl (okA.get v.1) ?_
    have v := v.2
    refine zg_getN (j := 8) (q := 17) C bX6 (by decide) lkX7_69 dX7_setup_14 rfl (okA.get v.1) ?_
    have v := v.2
    refine zg_astore (q := 19) C dX7_setup_17 (by decide) rfl ?_
    refine zg_iload (q := 21) C dX7_setup_19 rfl rfl ?_
    refine zg_if_lt (t := 30) (q := 24) C dX7_setup_21 (by decide) rfl (fun c => ?_) (fun c => ?_)
    · have v := v.1 c
      refine zg_bipush (v := (-2)) (q := 32) C dX7_setup_30 (by decide) rfl ?_
      exact zg_iret C rfl dX7_setup_32 ⟨Nat.le_refl _, Nat.le_refl _⟩ ⟨_, rfl, v⟩
    · have v := v.2 c
      refine zg_iload (q := 26) C dX7_setup_24 rfl rfl ?_
      refine zg_iconst (v := 1) (q := 27) C dX7_setup_26 (by decide) rfl ?_
      refine zg_icmp_le (t := 33) (q := 30) C dX7_setup_27 (by decide) rfl (fun c => ?_) (fun c => ?_)
      · have v := v.1 c
        refine zg_aload (q := 35) C dX7_setup_33 rfl rfl ?_
        refine zg_iconst (v := 0) (q := 36) C dX7_setup_35 (by decide) rfl ?_
        refine zg_iload_n (q := 37) C dX7_setup_36 rfl rfl ?_
        refine zg_cV2I (q := 40) C mX4_canTell vX4_canTell lmX7_118 rfl (bX4).1 v.1 (Nat.le_of_ble_eq_true rfl) ⟨Nat.le_refl _, Nat.le_refl _⟩ dX7_setup_37 rfl v.2 (fun r2 h1 v => ?_)
        refine zg_if_eq (t := 63) (q := 43) C dX7_setup_40 (by decide) rfl (fun c => ?_) (fun c => ?_)
        · have v := v.1 c
          refine zg_bipush (v := (-2)) (q := 65) C dX7_setup_63 (by decide) rfl ?_
          exact zg_iret C rfl dX7_setup_65 ⟨Nat.le_refl _, Nat.le_refl _⟩ ⟨_, rfl, v⟩
        · have v := v.2 c
          refine zg_aload (q := 45) C dX7_setup_43 rfl rfl ?_
          refine zg_iconst (v := 1) (q := 46) C dX7_setup_45 (by decide) rfl ?_
          refine zg_iload_n (q := 47) C dX7_setup_46 rfl rfl ?_
          refine zg_cV2I (q := 50) C mX4_canTell vX4_canTell lmX7_118 rfl (bX4).1 v.1 (Nat.le_of_ble_eq_true rfl) ⟨Nat.le_refl _, Nat.le_refl _⟩ dX7_setup_47 rfl v.2 (fun r4 h3 v => ?_)
          refine zg_if_eq (t := 63) (q := 53) C dX7_setup_50 (by decide) rfl (fun c => ?_) (fun c => ?_)
          · have v := v.1 c
            refine zg_bipush (v := (-2)) (q := 65) C dX7_setup_63 (by decide) rfl ?_
            exact zg_iret C rfl dX7_setup_65 ⟨Nat.le_refl _, Nat.le_refl _⟩ ⟨_, rfl, v⟩
          · have v := v.2 c
            refine zg_aload (q := 55) C dX7_setup_53 rfl rfl ?_
            refine zg_iconst (v := 2) (q := 56) C dX7_setup_55 (by decide) rfl ?_
            refine zg_iload_n (q := 57) C dX7_setup_56 rfl rfl ?_
            refine zg_cV2I (q := 60) C mX4_canTell vX4_canTell lmX7_118 rfl (bX4).1 v.1 (Nat.le_of_ble_eq_true rfl) ⟨Nat.le_refl _, Nat.le_refl _⟩ dX7_setup_57 rfl v.2 (fun r6 h5 v => ?_)
            refine zg_if_ne (t := 66) (q := 63) C dX7_setup_60 (by decide) rfl (fun c => ?_) (fun c => ?_)
            · have v := v.1 c
              refine zg_aload (q := 68) C dX7_setup_66 rfl rfl ?_
              refine zg_iload_n (q := 69) C dX7_setup_68 rfl rfl ?_
              refine zg_iload_n (q := 70) C dX7_setup_69 rfl rfl ?_
              refine zg_iload_n (q := 71) C dX7_setup_70 rfl rfl ?_
              refine zg_iload (q := 73) C dX7_setup_71 rfl rfl ?_
              refine zg_cV4I (q := 76) C mX4_indexOf vX4_indexOf lmX7_122 rfl (bX4).1 v.1 (Nat.le_of_ble_eq_true rfl) ⟨Nat.le_refl _, Nat.le_refl _⟩ dX7_setup_73 rfl v.2 (fun r8 h7 v => ?_)
              refine zg_istore (q := 78) C dX7_setup_76 (by decide) rfl ?_
              refine zg_aload_n (q := 79) C dX7_setup_78 rfl rfl ?_
              refine zg_get (j := 4) (q := 82) C bX7 (by decide) lkX7_62 dX7_setup_79 rfl (okA.get v.1) ?_
              have v := v.2
              refine zg_iload (q := 84) C dX7_setup_82 rfl rfl ?_
              refine zg_cV1I (q := 87) C mX6_isPossible vX6_isPossible lmX7_126 rfl (bX6).1 v.1 (Nat.le_of_ble_eq_true rfl) ⟨Nat.le_refl _, Nat.le_refl _⟩ dX7_setup_84 rfl v.2 (fun r10 h9 v => ?_)
              refine zg_if_ne (t := 93) (q := 90) C dX7_setup_87 (by decide) rfl (fun c => ?_) (fun c => ?_)
              · have v := v.1 c
                refine zg_aload_n (q := 94) C dX7_setup_93 rfl rfl ?_
                refine zg_get (j := 6) (q := 97) C bX7 (by decide) lkX7_16 dX7_setup_94 rfl (okA.get v.1) ?_
                have v := v.2
                refine zg_iload (q := 99) C dX7_setup_97 rfl rfl ?_
                refine zg_cV1V (q := 102) C mX0_begin vX0_begin lmX7_129 rfl (bX0).1 v.1 (Nat.le_of_ble_eq_true rfl) ⟨Nat.le_refl _, Nat.le_refl _⟩ dX7_setup_99 rfl v.2 (fun h11 v => ?_)
                refine zg_iload (q := 104) C dX7_setup_102 rfl rfl ?_
                exact zg_iret C rfl dX7_setup_104 ⟨Nat.le_refl _, Nat.le_refl _⟩ ⟨_, rfl, v⟩
              · have v := v.2 c
                refine zg_bipush (v := (-5)) (q := 92) C dX7_setup_90 (by decide) rfl ?_
                exact zg_iret C rfl dX7_setup_92 ⟨Nat.le_refl _, Nat.le_refl _⟩ ⟨_, rfl, v⟩
            · have v := v.2 c
              refine zg_bipush (v := (-2)) (q := 65) C dX7_setup_63 (by decide) rfl ?_
              exact zg_iret C rfl dX7_setup_65 ⟨Nat.le_refl _, Nat.le_refl _⟩ ⟨_, rfl, v⟩
      · have v := v.2 c
        refine zg_bipush (v := (-2)) (q := 32) C dX7_setup_30 (by decide) rfl ?_
        exact zg_iret C rfl dX7_setup_32 ⟨Nat.le_refl _, Nat.le_refl _⟩ ⟨_, rfl, v⟩
  · have v := v.2 c
    refine zg_bipush (v := (-3)) (q := 9) C dX7_setup_7 (by decide) rfl ?_
    exact zg_iret C rfl dX7_setup_9 ⟨Nat.le_refl _, Nat.le_refl _⟩ ⟨_, rfl, v⟩
theorem rnX7_setup {E : Wd} {d : Nat} {a0 : Nat} {x1 : Int32} {x2 : Int32} {x3 : Int32} {x4 : Int32} {h : Hp} {Q : Int32 → Hp → Prop} (k : vcX7_setup_0 E d a0 x1 x2 x3 x4 h Q) : OkI E YX7_setup (d + 1) [.ref a0, .int x1, .int x2, .int x3, .int x4] h Q :=
  zz_body2 (r := 2) mX7_setup (zc_a (zc_i (zc_i (zc_i (zc_i zc_n))))) (Nat.le_of_ble_eq_true rfl) (fun X C => zsX7_setup_0 C a0 x1 x2 x3 x4 h k)
def vcX7_load_0 (E : Wd) (d : Nat) (a0 : Nat) (x1 : Int32) (h : Hp) (Q : Int32 → Hp → Prop) : Prop :=
  okN h a0 7 4 ∧ (∀ z, (fN h a0 4) = some z → okA h a0 7 4 ∧ isO h (fA h a0 4) 6 ∧ OkI E YX6_isPossible d [.ref (fA h a0 4), .int x1] h (fun r2 h1 => (¬ r2 = (0 : Int32) → okA h1 a0 7 6 ∧ isO h1 (fA h1 a0 6) 0 ∧ OkV E YX0_begin d [.ref (fA h1 a0 6), .int x1] h1 (fun h3 => Q (x1 &&& (1 : Int32)) h3)) ∧ (r2 = (0 : Int32) → Q ((-5)) h1))) ∧ ((fN h a0 4) = none → Q ((-3)) h)
set_option maxRecDepth 100000 in
set_option maxHeartbeats 4000000 in
theorem zsX7_load_0 {E : Wd} {X : Mx} {d : Nat} {Q : Int32 → Hp → Prop} (C : zz_C E X YX7_load (d + 1) 0 0 (fun r h' => ∃ x : Int32, r = some (.int x) ∧ Q x h')) (a0 : Nat) (x1 : Int32) (h : Hp) (v : vcX7_load_0 E d a0 x1 h Q) : GG E X 2 0 0 0 [some (.ref a0), some (.int x1)] [] h := by
  refine zg_aload_n (q := 1) C dX7_load_0 rfl rfl ?_
  refine zg_get (j := 4) (q := 4) C bX7 (by decide) lkX7_62 dX7_load_1 rfl (okN.get v.1) ?_
  have v := v.2
  refine zg_nonnull (t := 10) (q := 7) C dX7_load_4 (by decide) rfl (fun z c => ?_) (fun c => ?_)
  · have v := v.1 z c
    refine zg_aload_n (q := 11) C dX7_load_10 rfl rfl ?_
    refine zg_get (j := 4) (q := 14) C bX7 (by decide) lkX7_62 dX7_load_11 rfl (okA.get v.1) ?_
    have v := v.2
    refine zg_iload_n (q := 15) C dX7_load_14 rfl rfl ?_
    refine zg_cV1I (q := 18) C mX6_isPossible vX6_isPossible lmX7_126 rfl (bX6).1 v.1 (Nat.le_of_ble_eq_true rfl) ⟨Nat.le_refl _, Nat.le_refl _⟩ dX7_load_15 rfl v.2 (fun r2 h1 v => ?_)
    refine zg_if_ne (t := 24) (q := 21) C dX7_load_18 (by decide) rfl (fun c => ?_) (fun c => ?_)
    · have v := v.1 c
      refine zg_aload_n (q := 25) C dX7_load_24 rfl rfl ?_
      refine zg_get (j := 6) (q := 28) C bX7 (by decide) lkX7_16 dX7_load_25 rfl (okA.get v.1) ?_
      have v := v.2
      refine zg_iload_n (q := 29) C dX7_load_28 rfl rfl ?_
      refine zg_cV1V (q := 32) C mX0_begin vX0_begin lmX7_129 rfl (bX0).1 v.1 (Nat.le_of_ble_eq_true rfl) ⟨Nat.le_refl _, Nat.le_refl _⟩ dX7_load_29 rfl v.2 (fun h3 v => ?_)
      refine zg_iload_n (q := 33) C dX7_load_32 rfl rfl ?_
      refine zg_iconst (v := 1) (q := 34) C dX7_load_33 (by decide) rfl ?_
      refine zg_iand (q := 35) C dX7_load_34 rfl ?_
      exact zg_iret C rfl dX7_load_35 ⟨Nat.le_refl _, Nat.le_refl _⟩ ⟨_, rfl, v⟩
    · have v := v.2 c
      refine zg_bipush (v := (-5)) (q := 23) C dX7_load_21 (by decide) rfl ?_
      exact zg_iret C rfl dX7_load_23 ⟨Nat.le_refl _, Nat.le_refl _⟩ ⟨_, rfl, v⟩
  · have v := v.2 c
    refine zg_bipush (v := (-3)) (q := 9) C dX7_load_7 (by decide) rfl ?_
    exact zg_iret C rfl dX7_load_9 ⟨Nat.le_refl _, Nat.le_refl _⟩ ⟨_, rfl, v⟩
theorem rnX7_load {E : Wd} {d : Nat} {a0 : Nat} {x1 : Int32} {h : Hp} {Q : Int32 → Hp → Prop} (k : vcX7_load_0 E d a0 x1 h Q) : OkI E YX7_load (d + 1) [.ref a0, .int x1] h Q :=
  zz_body2 (r := 0) mX7_load (zc_a (zc_i zc_n)) (Nat.le_of_ble_eq_true rfl) (fun X C => zsX7_load_0 C a0 x1 h k)
def vcX7_board_0 (E : Wd) (d : Nat) (a0 : Nat) (x1 : Int32) (h : Hp) (Q : Int32 → Hp → Prop) : Prop :=
  isO h a0 7 ∧ OkI E YX7_isPlaying d [.ref a0] h (fun r2 h1 => (¬ r2 = (0 : Int32) → okA h1 a0 7 6 ∧ isO h1 (fA h1 a0 6) 0 ∧ OkI E YX0_present d [.ref (fA h1 a0 6)] h1 (fun r4 h3 => (x1 = (0 : Int32) → Q r4 h3) ∧ (¬ x1 = (0 : Int32) → (x1 = (1 : Int32) → Q (r4 &&& (1 : Int32)) h3) ∧ (¬ x1 = (1 : Int32) → (x1 = (2 : Int32) → okA h3 a0 7 4 ∧ isO h3 (fA h3 a0 4) 6 ∧ OkI E YX6_valueOf d [.ref (fA h3 a0 4), .int r4] h3 (fun r6 h5 => Q r6 h5)) ∧ (¬ x1 = (2 : Int32) → (x1 = (3 : Int32) → okA h3 a0 7 4 ∧ isO h3 (fA h3 a0 4) 6 ∧ OkI E YX6_toEndOf d [.ref (fA h3 a0 4), .int r4] h3 (fun r8 h7 => Q r8 h7)) ∧ (¬ x1 = (3 : Int32) → (x1 = (4 : Int32) → okA h3 a0 7 4 ∧ isO h3 (fA h3 a0 4) 6 ∧ OkI E YX6_toConversionOf d [.ref (fA h3 a0 4), .int r4] h3 (fun r10 h9 => Q r10 h9)) ∧ (¬ x1 = (4 : Int32) → (x1 = (5 : Int32) → okA h3 a0 7 4 ∧ isO h3 (fA h3 a0 4) 6 ∧ OkI E YX6_verdictOf d [.ref (fA h3 a0 4), .int r4] h3 (fun r12 h11 => Q r12 h11)) ∧ (¬ x1 = (5 : Int32) → (x1 = (6 : Int32) → okA h3 a0 7 4 ∧ isO h3 (fA h3 a0 4) 6 ∧ OkI E YX6_isRoyalAttacked d [.ref (fA h3 a0 4), .int r4] h3 (fun r14 h13 => (r14 = (0 : Int32) → Q 0 h13) ∧ (¬ r14 = (0 : Int32) → Q 1 h13))) ∧ (¬ x1 = (6 : Int32) → (x1 = (7 : Int32) → okA h3 a0 7 4 ∧ isO h3 (fA h3 a0 4) 6 ∧ OkI E YX6_stepsOf d [.ref (fA h3 a0 4), .int r4] h3 (fun r16 h15 => Q r16 h15)) ∧ (¬ x1 = (7 : Int32) → (x1 = (8 : Int32) → okA h3 a0 7 4 ∧ isO h3 (fA h3 a0 4) 6 ∧ OkI E YX6_canonicalOf d [.ref (fA h3 a0 4), .int r4] h3 (fun r18 h17 => Q r18 h17)) ∧ (¬ x1 = (8 : Int32) → (x1 = (9 : Int32) → okA h3 a0 7 4 ∧ okA h3 (fA h3 a0 4) 6 9 ∧ isO h3 (fA h3 (fA h3 a0 4) 9) 5 ∧ OkI E YX5_differentImages d [.ref (fA h3 (fA h3 a0 4) 9), .int r4] h3 (fun r20 h19 => Q r20 h19)) ∧ (¬ x1 = (9 : Int32) → isO h3 a0 7 ∧ OkI E YX7_manOnBoard d [.ref a0, .int (x1 - (10 : Int32)), .int r4] h3 (fun r22 h21 => Q r22 h21))))))))))))) ∧ (r2 = (0 : Int32) → Q ((-3)) h1))
set_option maxRecDepth 100000 in
set_option maxHeartbeats 4000000 in
theorem zsX7_board_0 {E : Wd} {X : Mx} {d : Nat} {Q : Int32 → Hp → Prop} (C : zz_C E X YX7_board (d + 1) 0 0 (fun r h' => ∃ x : Int32, r = some (.int x) ∧ Q x h')) (a0 : Nat) (x1 : Int32) (h : Hp) (v : vcX7_board_0 E d a0 x1 h Q) : GG E X 3 0 0 0 [some (.ref a0), some (.int x1), none] [] h := by
  refine zg_aload_n (q := 1) C dX7_board_0 rfl rfl ?_
  refine zg_cV0I (q := 4) C mX7_isPlaying vX7_isPlaying lmX7_132 rfl (bX7).1 v.1 (Nat.le_of_ble_eq_true rfl) ⟨Nat.le_refl _, Nat.le_refl _⟩ dX7_board_1 rfl v.2 (fun r2 h1 v => ?_)
  refine zg_if_ne (t := 10) (q := 7) C dX7_board_4 (by decide) rfl (fun c => ?_) (fun c => ?_)
  · have v := v.1 c
    refine zg_aload_n (q := 11) C dX7_board_10 rfl rfl ?_
    refine zg_get (j := 6) (q := 14) C bX7 (by decide) lkX7_16 dX7_board_11 rfl (okA.get v.1) ?_
    have v := v.2
    refine zg_cV0I (q := 17) C mX0_present vX0_present lmX7_135 rfl (bX0).1 v.1 (Nat.le_of_ble_eq_true rfl) ⟨Nat.le_refl _, Nat.le_refl _⟩ dX7_board_14 rfl v.2 (fun r4 h3 v => ?_)
    refine zg_istore_n (q := 18) C dX7_board_17 (by decide) rfl ?_
    refine zg_iload_n (q := 19) C dX7_board_18 rfl rfl ?_
    by_cases c0 : x1 = (0 : Int32)
    · have v := v.1 c0
      refine zg_tabC (t := 72) (off := 53) C dX7_board_19 c0 (by decide) (by decide) (by decide) (by decide) ?_
      refine zg_iload_n (q := 73) C dX7_board_72 rfl rfl ?_
      exact zg_iret C rfl dX7_board_73 ⟨Nat.le_refl _, Nat.le_refl _⟩ ⟨_, rfl, v⟩
    · have v := v.2 c0
      by_cases c1 : x1 = (1 : Int32)
      · have v := v.1 c1
        refine zg_tabC (t := 74) (off := 55) C dX7_board_19 c1 (by decide) (by decide) (by decide) (by decide) ?_
        refine zg_iload_n (q := 75) C dX7_board_74 rfl rfl ?_
        refine zg_iconst (v := 1) (q := 76) C dX7_board_75 (by decide) rfl ?_
        refine zg_iand (q := 77) C dX7_board_76 rfl ?_
        exact zg_iret C rfl dX7_board_77 ⟨Nat.le_refl _, Nat.le_refl _⟩ ⟨_, rfl, v⟩
      · have v := v.2 c1
        by_cases c2 : x1 = (2 : Int32)
        · have v := v.1 c2
          refine zg_tabC (t := 78) (off := 59) C dX7_board_19 c2 (by decide) (by decide) (by decide) (by decide) ?_
          refine zg_aload_n (q := 79) C dX7_board_78 rfl rfl ?_
          refine zg_get (j := 4) (q := 82) C bX7 (by decide) lkX7_62 dX7_board_79 rfl (okA.get v.1) ?_
          have v := v.2
          refine zg_iload_n (q := 83) C dX7_board_82 rfl rfl ?_
          refine zg_cV1I (q := 86) C mX6_valueOf vX6_valueOf lmX7_139 rfl (bX6).1 v.1 (Nat.le_of_ble_eq_true rfl) ⟨Nat.le_refl _, Nat.le_refl _⟩ dX7_board_83 rfl v.2 (fun r6 h5 v => ?_)
          exact zg_iret C rfl dX7_board_86 ⟨Nat.le_refl _, Nat.le_refl _⟩ ⟨_, rfl, v⟩
        · have v := v.2 c2
          by_cases c3 : x1 = (3 : Int32)
          · have v := v.1 c3
            refine zg_tabC (t := 87) (off := 68) C dX7_board_19 c3 (by decide) (by decide) (by decide) (by decide) ?_
            refine zg_aload_n (q := 88) C dX7_board_87 rfl rfl ?_
            refine zg_get (j := 4) (q := 91) C bX7 (by decide) lkX7_62 dX7_board_88 rfl (okA.get v.1) ?_
            have v := v.2
            refine zg_iload_n (q := 92) C dX7_board_91 rfl rfl ?_
            refine zg_cV1I (q := 95) C mX6_toEndOf vX6_toEndOf lmX7_142 rfl (bX6).1 v.1 (Nat.le_of_ble_eq_true rfl) ⟨Nat.le_refl _, Nat.le_refl _⟩ dX7_board_92 rfl v.2 (fun r8 h7 v => ?_)
            exact zg_iret C rfl dX7_board_95 ⟨Nat.le_refl _, Nat.le_refl _⟩ ⟨_, rfl, v⟩
          · have v := v.2 c3
            by_cases c4 : x1 = (4 : Int32)
            · have v := v.1 c4
              refine zg_tabC (t := 96) (off := 77) C dX7_board_19 c4 (by decide) (by decide) (by decide) (by decide) ?_
              refine zg_aload_n (q := 97) C dX7_board_96 rfl rfl ?_
              refine zg_get (j := 4) (q := 100) C bX7 (by decide) lkX7_62 dX7_board_97 rfl (okA.get v.1) ?_
              have v := v.2
              refine zg_iload_n (q := 101) C dX7_board_100 rfl rfl ?_
              refine zg_cV1I (q := 104) C mX6_toConversionOf vX6_toConversionOf lmX7_145 rfl (bX6).1 v.1 (Nat.le_of_ble_eq_true rfl) ⟨Nat.le_refl _, Nat.le_refl _⟩ dX7_board_101 rfl v.2 (fun r10 h9 v => ?_)
              exact zg_iret C rfl dX7_board_104 ⟨Nat.le_refl _, Nat.le_refl _⟩ ⟨_, rfl, v⟩
            · have v := v.2 c4
              by_cases c5 : x1 = (5 : Int32)
              · have v := v.1 c5
                refine zg_tabC (t := 105) (off := 86) C dX7_board_19 c5 (by decide) (by decide) (by decide) (by decide) ?_
                refine zg_aload_n (q := 106) C dX7_board_105 rfl rfl ?_
                refine zg_get (j := 4) (q := 109) C bX7 (by decide) lkX7_62 dX7_board_106 rfl (okA.get v.1) ?_
                have v := v.2
                refine zg_iload_n (q := 110) C dX7_board_109 rfl rfl ?_
                refine zg_cV1I (q := 113) C mX6_verdictOf vX6_verdictOf lmX7_148 rfl (bX6).1 v.1 (Nat.le_of_ble_eq_true rfl) ⟨Nat.le_refl _, Nat.le_refl _⟩ dX7_board_110 rfl v.2 (fun r12 h11 v => ?_)
                exact zg_iret C rfl dX7_board_113 ⟨Nat.le_refl _, Nat.le_refl _⟩ ⟨_, rfl, v⟩
              · have v := v.2 c5
                by_cases c6 : x1 = (6 : Int32)
                · have v := v.1 c6
                  refine zg_tabC (t := 114) (off := 95) C dX7_board_19 c6 (by decide) (by decide) (by decide) (by decide) ?_
                  refine zg_aload_n (q := 115) C dX7_board_114 rfl rfl ?_
                  refine zg_get (j := 4) (q := 118) C bX7 (by decide) lkX7_62 dX7_board_115 rfl (okA.get v.1) ?_
                  have v := v.2
                  refine zg_iload_n (q := 119) C dX7_board_118 rfl rfl ?_
                  refine zg_cV1I (q := 122) C mX6_isRoyalAttacked vX6_isRoyalAttacked lmX7_151 rfl (bX6).1 v.1 (Nat.le_of_ble_eq_true rfl) ⟨Nat.le_refl _, Nat.le_refl _⟩ dX7_board_119 rfl v.2 (fun r14 h13 v => ?_)
                  refine zg_if_eq (t := 129) (q := 125) C dX7_board_122 (by decide) rfl (fun c => ?_) (fun c => ?_)
                  · have v := v.1 c
                    refine zg_iconst (v := 0) (q := 130) C dX7_board_129 (by decide) rfl ?_
                    exact zg_iret C rfl dX7_board_130 ⟨Nat.le_refl _, Nat.le_refl _⟩ ⟨_, rfl, v⟩
                  · have v := v.2 c
                    refine zg_iconst (v := 1) (q := 126) C dX7_board_125 (by decide) rfl ?_
                    refine zg_goto (t := 130) C dX7_board_126 (by decide) ?_
                    exact zg_iret C rfl dX7_board_130 ⟨Nat.le_refl _, Nat.le_refl _⟩ ⟨_, rfl, v⟩
                · have v := v.2 c6
                  by_cases c7 : x1 = (7 : Int32)
                  · have v := v.1 c7
                    refine zg_tabC (t := 131) (off := 112) C dX7_board_19 c7 (by decide) (by decide) (by decide) (by decide) ?_
                    refine zg_aload_n (q := 132) C dX7_board_131 rfl rfl ?_
                    refine zg_get (j := 4) (q := 135) C bX7 (by decide) lkX7_62 dX7_board_132 rfl (okA.get v.1) ?_
                    have v := v.2
                    refine zg_iload_n (q := 136) C dX7_board_135 rfl rfl ?_
                    refine zg_cV1I (q := 139) C mX6_stepsOf vX6_stepsOf lmX7_154 rfl (bX6).1 v.1 (Nat.le_of_ble_eq_true rfl) ⟨Nat.le_refl _, Nat.le_refl _⟩ dX7_board_136 rfl v.2 (fun r16 h15 v => ?_)
                    exact zg_iret C rfl dX7_board_139 ⟨Nat.le_refl _, Nat.le_refl _⟩ ⟨_, rfl, v⟩
                  · have v := v.2 c7
                    by_cases c8 : x1 = (8 : Int32)
                    · have v := v.1 c8
                      refine zg_tabC (t := 140) (off := 121) C dX7_board_19 c8 (by decide) (by decide) (by decide) (by decide) ?_
                      refine zg_aload_n (q := 141) C dX7_board_140 rfl rfl ?_
                      refine zg_get (j := 4) (q := 144) C bX7 (by decide) lkX7_62 dX7_board_141 rfl (okA.get v.1) ?_
                      have v := v.2
                      refine zg_iload_n (q := 145) C dX7_board_144 rfl rfl ?_
                      refine zg_cV1I (q := 148) C mX6_canonicalOf vX6_canonicalOf lmX7_157 rfl (bX6).1 v.1 (Nat.le_of_ble_eq_true rfl) ⟨Nat.le_refl _, Nat.le_refl _⟩ dX7_board_145 rfl v.2 (fun r18 h17 v => ?_)
                      exact zg_iret C rfl dX7_board_148 ⟨Nat.le_refl _, Nat.le_refl _⟩ ⟨_, rfl, v⟩
                    · have v := v.2 c8
                      by_cases c9 : x1 = (9 : Int32)
                      · have v := v.1 c9
                        refine zg_tabC (t := 149) (off := 130) C dX7_board_19 c9 (by decide) (by decide) (by decide) (by decide) ?_
                        refine zg_aload_n (q := 150) C dX7_board_149 rfl rfl ?_
                        refine zg_get (j := 4) (q := 153) C bX7 (by decide) lkX7_62 dX7_board_150 rfl (okA.get v.1) ?_
                        have v := v.2
                        refine zg_getN (j := 9) (q := 156) C bX6 (by decide) lkX7_103 dX7_board_153 rfl (okA.get v.1) ?_
                        have v := v.2
                        refine zg_iload_n (q := 157) C dX7_board_156 rfl rfl ?_
                        refine zg_cV1I (q := 160) C mX5_differentImages vX5_differentImages lmX7_160 rfl (bX5).1 v.1 (Nat.le_of_ble_eq_true rfl) ⟨Nat.le_refl _, Nat.le_refl _⟩ dX7_board_157 rfl v.2 (fun r20 h19 v => ?_)
                        exact zg_iret C rfl dX7_board_160 ⟨Nat.le_refl _, Nat.le_refl _⟩ ⟨_, rfl, v⟩
                      · have v := v.2 c9
                        refine zg_tabD (t := 161) (cnt := 10) C dX7_board_19 (fun j hj => by match j, hj with | 0, _ => exact c0 | 1, _ => exact c1 | 2, _ => exact c2 | 3, _ => exact c3 | 4, _ => exact c4 | 5, _ => exact c5 | 6, _ => exact c6 | 7, _ => exact c7 | 8, _ => exact c8 | 9, _ => exact c9) rfl (by decide) ?_
                        refine zg_aload_n (q := 162) C dX7_board_161 rfl rfl ?_
                        refine zg_iload_n (q := 163) C dX7_board_162 rfl rfl ?_
                        refine zg_bipush (v := 10) (q := 165) C dX7_board_163 (by decide) rfl ?_
                        refine zg_isub (q := 166) C dX7_board_165 rfl ?_
                        refine zg_iload_n (q := 167) C dX7_board_166 rfl rfl ?_
                        refine zg_cV2I (q := 170) C mX7_manOnBoard vX7_manOnBoard lmX7_163 rfl (bX7).1 v.1 (Nat.le_of_ble_eq_true rfl) ⟨Nat.le_refl _, Nat.le_refl _⟩ dX7_board_167 rfl v.2 (fun r22 h21 v => ?_)
                        exact zg_iret C rfl dX7_board_170 ⟨Nat.le_refl _, Nat.le_refl _⟩ ⟨_, rfl, v⟩
  · have v := v.2 c
    refine zg_bipush (v := (-3)) (q := 9) C dX7_board_7 (by decide) rfl ?_
    exact zg_iret C rfl dX7_board_9 ⟨Nat.le_refl _, Nat.le_refl _⟩ ⟨_, rfl, v⟩
theorem rnX7_board {E : Wd} {d : Nat} {a0 : Nat} {x1 : Int32} {h : Hp} {Q : Int32 → Hp → Prop} (k : vcX7_board_0 E d a0 x1 h Q) : OkI E YX7_board (d + 1) [.ref a0, .int x1] h Q :=
  zz_body2 (r := 1) mX7_board (zc_a (zc_i zc_n)) (Nat.le_of_ble_eq_true rfl) (fun X C => zsX7_board_0 C a0 x1 h k)
def vcX7_move_0 (E : Wd) (d : Nat) (a0 : Nat) (x1 : Int32) (x2 : Int32) (h : Hp) (Q : Int32 → Hp → Prop) : Prop :=
  isO h a0 7 ∧ OkI E YX7_isPlaying d [.ref a0] h (fun r2 h1 => (¬ r2 = (0 : Int32) → okA h1 a0 7 6 ∧ isO h1 (fA h1 a0 6) 0 ∧ OkI E YX0_present d [.ref (fA h1 a0 6)] h1 (fun r4 h3 => okA h3 a0 7 4 ∧ isO h3 (fA h3 a0 4) 6 ∧ OkI E YX6_stepOf d [.ref (fA h3 a0 4), .int r4, .int x1] h3 (fun r6 h5 => ((0 : Int32) ≤ r6 → okA h5 a0 7 4 ∧ okA h5 (fA h5 a0 4) 6 8 ∧ isO h5 (fA h5 (fA h5 a0 4) 8) 4 ∧ OkI E YX4_changedMan d [.ref (fA h5 (fA h5 a0 4) 8), .int r4, .int r6, .int (r4 &&& (1 : Int32))] h5 (fun r8 h7 => (x2 = (0 : Int32) → Q r8 h7) ∧ (¬ x2 = (0 : Int32) → (x2 = (1 : Int32) → okA h7 a0 7 4 ∧ okA h7 (fA h7 a0 4) 6 8 ∧ isO h7 (fA h7 (fA h7 a0 4) 8) 4 ∧ OkI E YX4_squareOf d [.ref (fA h7 (fA h7 a0 4) 8), .int r6, .int r8] h7 (fun r10 h9 => Q r10 h9)) ∧ (¬ x2 = (1 : Int32) → (x2 = (2 : Int32) → isO h7 a0 7 ∧ OkI E YX7_capturedMan d [.ref a0, .int r4, .int r6] h7 (fun r12 h11 => Q r12 h11)) ∧ (¬ x2 = (2 : Int32) → (x2 = (3 : Int32) → okA h7 a0 7 4 ∧ isO h7 (fA h7 a0 4) 6 ∧ OkI E YX6_valueOf d [.ref (fA h7 a0 4), .int r6] h7 (fun r14 h13 => Q r14 h13)) ∧ (¬ x2 = (3 : Int32) → (x2 = (4 : Int32) → okA h7 a0 7 4 ∧ isO h7 (fA h7 a0 4) 6 ∧ OkI E YX6_toEndOf d [.ref (fA h7 a0 4), .int r6] h7 (fun r16 h15 => Q r16 h15)) ∧ (¬ x2 = (4 : Int32) → (x2 = (5 : Int32) → okA h7 a0 7 4 ∧ isO h7 (fA h7 a0 4) 6 ∧ OkI E YX6_toConversionOf d [.ref (fA h7 a0 4), .int r6] h7 (fun r18 h17 => Q r18 h17)) ∧ (¬ x2 = (5 : Int32) → (x2 = (6 : Int32) → Q r6 h7) ∧ (¬ x2 = (6 : Int32) → Q ((-1)) h7))))))))) ∧ (¬ (0 : Int32) ≤ r6 → Q ((-1)) h5)))) ∧ (r2 = (0 : Int32) → Q ((-3)) h1))
set_option maxRecDepth 100000 in
set_option maxHeartbeats 4000000 in
theorem zsX7_move_0 {E : Wd} {X : Mx} {d : Nat} {Q : Int32 → Hp → Prop} (C : zz_C E X YX7_move (d + 1) 0 0 (fun r h' => ∃ x : Int32, r = some (.int x) ∧ Q x h')) (a0 : Nat) (x1 : Int32) (x2 : Int32) (h : Hp) (v : vcX7_move_0 E d a0 x1 x2 h Q) : GG E X 6 0 0 0 [some (.ref a0), some (.int x1), some (.int x2), none, none, none] [] h := by
  refine zg_aload_n (q := 1) C dX7_move_0 rfl rfl ?_
  refine zg_cV0I (q := 4) C mX7_isPlaying vX7_isPlaying lmX7_132 rfl (bX7).1 v.1 (Nat.le_of_ble_eq_true rfl) ⟨Nat.le_refl _, Nat.le_refl _⟩ dX7_move_1 rfl v.2 (fun r2 h1 v => ?_)
  refine zg_if_ne (t := 10) (q := 7) C dX7_move_4 (by decide) rfl (fun c => ?_) (fun c => ?_)
  · have v := v.1 c
    refine zg_aload_n (q := 11) C dX7_move_10 rfl rfl ?_
    refine zg_get (j := 6) (q := 14) C bX7 (by decide) lkX7_16 dX7_move_11 rfl (okA.get v.1) ?_
    have v := v.2
    refine zg_cV0I (q := 17) C mX0_present vX0_present lmX7_135 rfl (bX0).1 v.1 (Nat.le_of_ble_eq_true rfl) ⟨Nat.le_refl _, Nat.le_refl _⟩ dX7_move_14 rfl v.2 (fun r4 h3 v => ?_)
    refine zg_istore_n (q := 18) C dX7_move_17 (by decide) rfl ?_
    refine zg_aload_n (q := 19) C dX7_move_18 rfl rfl ?_
    refine zg_get (j := 4) (q := 22) C bX7 (by decide) lkX7_62 dX7_move_19 rfl (okA.get v.1) ?_
    have v := v.2
    refine zg_iload_n (q := 23) C dX7_move_22 rfl rfl ?_
    refine zg_iload_n (q := 24) C dX7_move_23 rfl rfl ?_
    refine zg_cV2I (q := 27) C mX6_stepOf vX6_stepOf lmX7_167 rfl (bX6).1 v.1 (Nat.le_of_ble_eq_true rfl) ⟨Nat.le_refl _, Nat.le_refl _⟩ dX7_move_24 rfl v.2 (fun r6 h5 v => ?_)
    refine zg_istore (q := 29) C dX7_move_27 (by decide) rfl ?_
    refine zg_iload (q := 31) C dX7_move_29 rfl rfl ?_
    refine zg_if_ge (t := 36) (q := 34) C dX7_move_31 (by decide) rfl (fun c => ?_) (fun c => ?_)
    · have v := v.1 c
      refine zg_aload_n (q := 37) C dX7_move_36 rfl rfl ?_
      refine zg_get (j := 4) (q := 40) C bX7 (by decide) lkX7_62 dX7_move_37 rfl (okA.get v.1) ?_
      have v := v.2
      refine zg_getN (j := 8) (q := 43) C bX6 (by decide) lkX7_69 dX7_move_40 rfl (okA.get v.1) ?_
      have v := v.2
      refine zg_iload_n (q := 44) C dX7_move_43 rfl rfl ?_
      refine zg_iload (q := 46) C dX7_move_44 rfl rfl ?_
      refine zg_iload_n (q := 47) C dX7_move_46 rfl rfl ?_
      refine zg_iconst (v := 1) (q := 48) C dX7_move_47 (by decide) rfl ?_
      refine zg_iand (q := 49) C dX7_move_48 rfl ?_
      refine zg_cV3I (q := 52) C mX4_changedMan vX4_changedMan lmX7_170 rfl (bX4).1 v.1 (Nat.le_of_ble_eq_true rfl) ⟨Nat.le_refl _, Nat.le_refl _⟩ dX7_move_49 rfl v.2 (fun r8 h7 v => ?_)
      refine zg_istore (q := 54) C dX7_move_52 (by decide) rfl ?_
      refine zg_iload_n (q := 55) C dX7_move_54 rfl rfl ?_
      by_cases c0 : x2 = (0 : Int32)
      · have v := v.1 c0
        refine zg_tabC (t := 96) (off := 41) C dX7_move_55 c0 (by decide) (by decide) (by decide) (by decide) ?_
        refine zg_iload (q := 98) C dX7_move_96 rfl rfl ?_
        exact zg_iret C rfl dX7_move_98 ⟨Nat.le_refl _, Nat.le_refl _⟩ ⟨_, rfl, v⟩
      · have v := v.2 c0
        by_cases c1 : x2 = (1 : Int32)
        · have v := v.1 c1
          refine zg_tabC (t := 99) (off := 44) C dX7_move_55 c1 (by decide) (by decide) (by decide) (by decide) ?_
          refine zg_aload_n (q := 100) C dX7_move_99 rfl rfl ?_
          refine zg_get (j := 4) (q := 103) C bX7 (by decide) lkX7_62 dX7_move_100 rfl (okA.get v.1) ?_
          have v := v.2
          refine zg_getN (j := 8) (q := 106) C bX6 (by decide) lkX7_69 dX7_move_103 rfl (okA.get v.1) ?_
          have v := v.2
          refine zg_iload (q := 108) C dX7_move_106 rfl rfl ?_
          refine zg_iload (q := 110) C dX7_move_108 rfl rfl ?_
          refine zg_cV2I (q := 113) C mX4_squareOf vX4_squareOf lmX7_174 rfl (bX4).1 v.1 (Nat.le_of_ble_eq_true rfl) ⟨Nat.le_refl _, Nat.le_refl _⟩ dX7_move_110 rfl v.2 (fun r10 h9 v => ?_)
          exact zg_iret C rfl dX7_move_113 ⟨Nat.le_refl _, Nat.le_refl _⟩ ⟨_, rfl, v⟩
        · have v := v.2 c1
          by_cases c2 : x2 = (2 : Int32)
          · have v := v.1 c2
            refine zg_tabC (t := 114) (off := 59) C dX7_move_55 c2 (by decide) (by decide) (by decide) (by decide) ?_
            refine zg_aload_n (q := 115) C dX7_move_114 rfl rfl ?_
            refine zg_iload_n (q := 116) C dX7_move_115 rfl rfl ?_
            refine zg_iload (q := 118) C dX7_move_116 rfl rfl ?_
            refine zg_cV2I (q := 121) C mX7_capturedMan vX7_capturedMan lmX7_177 rfl (bX7).1 v.1 (Nat.le_of_ble_eq_true rfl) ⟨Nat.le_refl _, Nat.le_refl _⟩ dX7_move_118 rfl v.2 (fun r12 h11 v => ?_)
            exact zg_iret C rfl dX7_move_121 ⟨Nat.le_refl _, Nat.le_refl _⟩ ⟨_, rfl, v⟩
          · have v := v.2 c2
            by_cases c3 : x2 = (3 : Int32)
            · have v := v.1 c3
              refine zg_tabC (t := 122) (off := 67) C dX7_move_55 c3 (by decide) (by decide) (by decide) (by decide) ?_
              refine zg_aload_n (q := 123) C dX7_move_122 rfl rfl ?_
              refine zg_get (j := 4) (q := 126) C bX7 (by decide) lkX7_62 dX7_move_123 rfl (okA.get v.1) ?_
              have v := v.2
              refine zg_iload (q := 128) C dX7_move_126 rfl rfl ?_
              refine zg_cV1I (q := 131) C mX6_valueOf vX6_valueOf lmX7_139 rfl (bX6).1 v.1 (Nat.le_of_ble_eq_true rfl) ⟨Nat.le_refl _, Nat.le_refl _⟩ dX7_move_128 rfl v.2 (fun r14 h13 v => ?_)
              exact zg_iret C rfl dX7_move_131 ⟨Nat.le_refl _, Nat.le_refl _⟩ ⟨_, rfl, v⟩
            · have v := v.2 c3
              by_cases c4 : x2 = (4 : Int32)
              · have v := v.1 c4
                refine zg_tabC (t := 132) (off := 77) C dX7_move_55 c4 (by decide) (by decide) (by decide) (by decide) ?_
                refine zg_aload_n (q := 133) C dX7_move_132 rfl rfl ?_
                refine zg_get (j := 4) (q := 136) C bX7 (by decide) lkX7_62 dX7_move_133 rfl (okA.get v.1) ?_
                have v := v.2
                refine zg_iload (q := 138) C dX7_move_136 rfl rfl ?_
                refine zg_cV1I (q := 141) C mX6_toEndOf vX6_toEndOf lmX7_142 rfl (bX6).1 v.1 (Nat.le_of_ble_eq_true rfl) ⟨Nat.le_refl _, Nat.le_refl _⟩ dX7_move_138 rfl v.2 (fun r16 h15 v => ?_)
                exact zg_iret C rfl dX7_move_141 ⟨Nat.le_refl _, Nat.le_refl _⟩ ⟨_, rfl, v⟩
              · have v := v.2 c4
                by_cases c5 : x2 = (5 : Int32)
                · have v := v.1 c5
                  refine zg_tabC (t := 142) (off := 87) C dX7_move_55 c5 (by decide) (by decide) (by decide) (by decide) ?_
                  refine zg_aload_n (q := 143) C dX7_move_142 rfl rfl ?_
                  refine zg_get (j := 4) (q := 146) C bX7 (by decide) lkX7_62 dX7_move_143 rfl (okA.get v.1) ?_
                  have v := v.2
                  refine zg_iload (q := 148) C dX7_move_146 rfl rfl ?_
                  refine zg_cV1I (q := 151) C mX6_toConversionOf vX6_toConversionOf lmX7_145 rfl (bX6).1 v.1 (Nat.le_of_ble_eq_true rfl) ⟨Nat.le_refl _, Nat.le_refl _⟩ dX7_move_148 rfl v.2 (fun r18 h17 v => ?_)
                  exact zg_iret C rfl dX7_move_151 ⟨Nat.le_refl _, Nat.le_refl _⟩ ⟨_, rfl, v⟩
                · have v := v.2 c5
                  by_cases c6 : x2 = (6 : Int32)
                  · have v := v.1 c6
                    refine zg_tabC (t := 152) (off := 97) C dX7_move_55 c6 (by decide) (by decide) (by decide) (by decide) ?_
                    refine zg_iload (q := 154) C dX7_move_152 rfl rfl ?_
                    exact zg_iret C rfl dX7_move_154 ⟨Nat.le_refl _, Nat.le_refl _⟩ ⟨_, rfl, v⟩
                  · have v := v.2 c6
                    refine zg_tabD (t := 155) (cnt := 7) C dX7_move_55 (fun j hj => by match j, hj with | 0, _ => exact c0 | 1, _ => exact c1 | 2, _ => exact c2 | 3, _ => exact c3 | 4, _ => exact c4 | 5, _ => exact c5 | 6, _ => exact c6) rfl (by decide) ?_
                    refine zg_iconst (v := (-1)) (q := 156) C dX7_move_155 (by decide) rfl ?_
                    exact zg_iret C rfl dX7_move_156 ⟨Nat.le_refl _, Nat.le_refl _⟩ ⟨_, rfl, v⟩
    · have v := v.2 c
      refine zg_iconst (v := (-1)) (q := 35) C dX7_move_34 (by decide) rfl ?_
      exact zg_iret C rfl dX7_move_35 ⟨Nat.le_refl _, Nat.le_refl _⟩ ⟨_, rfl, v⟩
  · have v := v.2 c
    refine zg_bipush (v := (-3)) (q := 9) C dX7_move_7 (by decide) rfl ?_
    exact zg_iret C rfl dX7_move_9 ⟨Nat.le_refl _, Nat.le_refl _⟩ ⟨_, rfl, v⟩
theorem rnX7_move {E : Wd} {d : Nat} {a0 : Nat} {x1 : Int32} {x2 : Int32} {h : Hp} {Q : Int32 → Hp → Prop} (k : vcX7_move_0 E d a0 x1 x2 h Q) : OkI E YX7_move (d + 1) [.ref a0, .int x1, .int x2] h Q :=
  zz_body2 (r := 3) mX7_move (zc_a (zc_i (zc_i zc_n))) (Nat.le_of_ble_eq_true rfl) (fun X C => zsX7_move_0 C a0 x1 x2 h k)
def vcX7_make_0 (E : Wd) (d : Nat) (a0 : Nat) (x1 : Int32) (h : Hp) (Q : Int32 → Hp → Prop) : Prop :=
  isO h a0 7 ∧ OkI E YX7_isPlaying d [.ref a0] h (fun r2 h1 => (¬ r2 = (0 : Int32) → okA h1 a0 7 4 ∧ okA h1 a0 7 6 ∧ isO h1 (fA h1 a0 6) 0 ∧ OkI E YX0_present d [.ref (fA h1 a0 6)] h1 (fun r4 h3 => isO h3 (fA h1 a0 4) 6 ∧ OkI E YX6_stepOf d [.ref (fA h1 a0 4), .int r4, .int x1] h3 (fun r6 h5 => ((0 : Int32) ≤ r6 → okA h5 a0 7 6 ∧ isO h5 (fA h5 a0 6) 0 ∧ OkI E YX0_made d [.ref (fA h5 a0 6)] h5 (fun r8 h7 => (r8 < (40 : Int32) → okA h7 a0 7 6 ∧ isO h7 (fA h7 a0 6) 0 ∧ OkV E YX0_add d [.ref (fA h7 a0 6), .int r6] h7 (fun h9 => okA h9 a0 7 6 ∧ isO h9 (fA h9 a0 6) 0 ∧ OkI E YX0_occurrences d [.ref (fA h9 a0 6)] h9 (fun r11 h10 => Q r11 h10))) ∧ (¬ r8 < (40 : Int32) → Q ((-4)) h7))) ∧ (¬ (0 : Int32) ≤ r6 → Q ((-1)) h5)))) ∧ (r2 = (0 : Int32) → Q ((-3)) h1))
set_option maxRecDepth 100000 in
set_option maxHeartbeats 4000000 in
theorem zsX7_make_0 {E : Wd} {X : Mx} {d : Nat} {Q : Int32 → Hp → Prop} (C : zz_C E X YX7_make (d + 1) 0 0 (fun r h' => ∃ x : Int32, r = some (.int x) ∧ Q x h')) (a0 : Nat) (x1 : Int32) (h : Hp) (v : vcX7_make_0 E d a0 x1 h Q) : GG E X 3 0 0 0 [some (.ref a0), some (.int x1), none] [] h := by
  refine zg_aload_n (q := 1) C dX7_make_0 rfl rfl ?_
  refine zg_cV0I (q := 4) C mX7_isPlaying vX7_isPlaying lmX7_132 rfl (bX7).1 v.1 (Nat.le_of_ble_eq_true rfl) ⟨Nat.le_refl _, Nat.le_refl _⟩ dX7_make_1 rfl v.2 (fun r2 h1 v => ?_)
  refine zg_if_ne (t := 10) (q := 7) C dX7_make_4 (by decide) rfl (fun c => ?_) (fun c => ?_)
  · have v := v.1 c
    refine zg_aload_n (q := 11) C dX7_make_10 rfl rfl ?_
    refine zg_get (j := 4) (q := 14) C bX7 (by decide) lkX7_62 dX7_make_11 rfl (okA.get v.1) ?_
    have v := v.2
    refine zg_aload_n (q := 15) C dX7_make_14 rfl rfl ?_
    refine zg_get (j := 6) (q := 18) C bX7 (by decide) lkX7_16 dX7_make_15 rfl (okA.get v.1) ?_
    have v := v.2
    refine zg_cV0I (q := 21) C mX0_present vX0_present lmX7_135 rfl (bX0).1 v.1 (Nat.le_of_ble_eq_true rfl) ⟨Nat.le_refl _, Nat.le_refl _⟩ dX7_make_18 rfl v.2 (fun r4 h3 v => ?_)
    refine zg_iload_n (q := 22) C dX7_make_21 rfl rfl ?_
    refine zg_cV2I (q := 25) C mX6_stepOf vX6_stepOf lmX7_167 rfl (bX6).1 v.1 (Nat.le_of_ble_eq_true rfl) ⟨Nat.le_refl _, Nat.le_refl _⟩ dX7_make_22 rfl v.2 (fun r6 h5 v => ?_)
    refine zg_istore_n (q := 26) C dX7_make_25 (by decide) rfl ?_
    refine zg_iload_n (q := 27) C dX7_make_26 rfl rfl ?_
    refine zg_if_ge (t := 32) (q := 30) C dX7_make_27 (by decide) rfl (fun c => ?_) (fun c => ?_)
    · have v := v.1 c
      refine zg_aload_n (q := 33) C dX7_make_32 rfl rfl ?_
      refine zg_get (j := 6) (q := 36) C bX7 (by decide) lkX7_16 dX7_make_33 rfl (okA.get v.1) ?_
      have v := v.2
      refine zg_cV0I (q := 39) C mX0_made vX0_made lmX7_180 rfl (bX0).1 v.1 (Nat.le_of_ble_eq_true rfl) ⟨Nat.le_refl _, Nat.le_refl _⟩ dX7_make_36 rfl v.2 (fun r8 h7 v => ?_)
      refine zg_bipush (v := 40) (q := 41) C dX7_make_39 (by decide) rfl ?_
      refine zg_icmp_lt (t := 47) (q := 44) C dX7_make_41 (by decide) rfl (fun c => ?_) (fun c => ?_)
      · have v := v.1 c
        refine zg_aload_n (q := 48) C dX7_make_47 rfl rfl ?_
        refine zg_get (j := 6) (q := 51) C bX7 (by decide) lkX7_16 dX7_make_48 rfl (okA.get v.1) ?_
        have v := v.2
        refine zg_iload_n (q := 52) C dX7_make_51 rfl rfl ?_
        refine zg_cV1V (q := 55) C mX0_add vX0_add lmX7_183 rfl (bX0).1 v.1 (Nat.le_of_ble_eq_true rfl) ⟨Nat.le_refl _, Nat.le_refl _⟩ dX7_make_52 rfl v.2 (fun h9 v => ?_)
        refine zg_aload_n (q := 56) C dX7_make_55 rfl rfl ?_
        refine zg_get (j := 6) (q := 59) C bX7 (by decide) lkX7_16 dX7_make_56 rfl (okA.get v.1) ?_
        have v := v.2
        refine zg_cV0I (q := 62) C mX0_occurrences vX0_occurrences lmX7_186 rfl (bX0).1 v.1 (Nat.le_of_ble_eq_true rfl) ⟨Nat.le_refl _, Nat.le_refl _⟩ dX7_make_59 rfl v.2 (fun r11 h10 v => ?_)
        exact zg_iret C rfl dX7_make_62 ⟨Nat.le_refl _, Nat.le_refl _⟩ ⟨_, rfl, v⟩
      · have v := v.2 c
        refine zg_bipush (v := (-4)) (q := 46) C dX7_make_44 (by decide) rfl ?_
        exact zg_iret C rfl dX7_make_46 ⟨Nat.le_refl _, Nat.le_refl _⟩ ⟨_, rfl, v⟩
    · have v := v.2 c
      refine zg_iconst (v := (-1)) (q := 31) C dX7_make_30 (by decide) rfl ?_
      exact zg_iret C rfl dX7_make_31 ⟨Nat.le_refl _, Nat.le_refl _⟩ ⟨_, rfl, v⟩
  · have v := v.2 c
    refine zg_bipush (v := (-3)) (q := 9) C dX7_make_7 (by decide) rfl ?_
    exact zg_iret C rfl dX7_make_9 ⟨Nat.le_refl _, Nat.le_refl _⟩ ⟨_, rfl, v⟩
theorem rnX7_make {E : Wd} {d : Nat} {a0 : Nat} {x1 : Int32} {h : Hp} {Q : Int32 → Hp → Prop} (k : vcX7_make_0 E d a0 x1 h Q) : OkI E YX7_make (d + 1) [.ref a0, .int x1] h Q :=
  zz_body2 (r := 1) mX7_make (zc_a (zc_i zc_n)) (Nat.le_of_ble_eq_true rfl) (fun X C => zsX7_make_0 C a0 x1 h k)
def vcX7_back_0 (E : Wd) (d : Nat) (a0 : Nat) (h : Hp) (Q : Int32 → Hp → Prop) : Prop :=
  isO h a0 7 ∧ OkI E YX7_isPlaying d [.ref a0] h (fun r2 h1 => (r2 = (0 : Int32) → Q ((-3)) h1) ∧ (¬ r2 = (0 : Int32) → okA h1 a0 7 6 ∧ isO h1 (fA h1 a0 6) 0 ∧ OkI E YX0_made d [.ref (fA h1 a0 6)] h1 (fun r4 h3 => ((1 : Int32) ≤ r4 → okA h3 a0 7 6 ∧ isO h3 (fA h3 a0 6) 0 ∧ OkV E YX0_removeLast d [.ref (fA h3 a0 6)] h3 (fun h5 => okA h5 a0 7 6 ∧ isO h5 (fA h5 a0 6) 0 ∧ OkI E YX0_made d [.ref (fA h5 a0 6)] h5 (fun r7 h6 => Q r7 h6))) ∧ (¬ (1 : Int32) ≤ r4 → Q ((-3)) h3))))
set_option maxRecDepth 100000 in
set_option maxHeartbeats 4000000 in
theorem zsX7_back_0 {E : Wd} {X : Mx} {d : Nat} {Q : Int32 → Hp → Prop} (C : zz_C E X YX7_back (d + 1) 0 0 (fun r h' => ∃ x : Int32, r = some (.int x) ∧ Q x h')) (a0 : Nat) (h : Hp) (v : vcX7_back_0 E d a0 h Q) : GG E X 1 0 0 0 [some (.ref a0)] [] h := by
  refine zg_aload_n (q := 1) C dX7_back_0 rfl rfl ?_
  refine zg_cV0I (q := 4) C mX7_isPlaying vX7_isPlaying lmX7_132 rfl (bX7).1 v.1 (Nat.le_of_ble_eq_true rfl) ⟨Nat.le_refl _, Nat.le_refl _⟩ dX7_back_1 rfl v.2 (fun r2 h1 v => ?_)
  refine zg_if_eq (t := 18) (q := 7) C dX7_back_4 (by decide) rfl (fun c => ?_) (fun c => ?_)
  · have v := v.1 c
    refine zg_bipush (v := (-3)) (q := 20) C dX7_back_18 (by decide) rfl ?_
    exact zg_iret C rfl dX7_back_20 ⟨Nat.le_refl _, Nat.le_refl _⟩ ⟨_, rfl, v⟩
  · have v := v.2 c
    refine zg_aload_n (q := 8) C dX7_back_7 rfl rfl ?_
    refine zg_get (j := 6) (q := 11) C bX7 (by decide) lkX7_16 dX7_back_8 rfl (okA.get v.1) ?_
    have v := v.2
    refine zg_cV0I (q := 14) C mX0_made vX0_made lmX7_180 rfl (bX0).1 v.1 (Nat.le_of_ble_eq_true rfl) ⟨Nat.le_refl _, Nat.le_refl _⟩ dX7_back_11 rfl v.2 (fun r4 h3 v => ?_)
    refine zg_iconst (v := 1) (q := 15) C dX7_back_14 (by decide) rfl ?_
    refine zg_icmp_ge (t := 21) (q := 18) C dX7_back_15 (by decide) rfl (fun c => ?_) (fun c => ?_)
    · have v := v.1 c
      refine zg_aload_n (q := 22) C dX7_back_21 rfl rfl ?_
      refine zg_get (j := 6) (q := 25) C bX7 (by decide) lkX7_16 dX7_back_22 rfl (okA.get v.1) ?_
      have v := v.2
      refine zg_cV0V (q := 28) C mX0_removeLast vX0_removeLast lmX7_189 rfl (bX0).1 v.1 (Nat.le_of_ble_eq_true rfl) ⟨Nat.le_refl _, Nat.le_refl _⟩ dX7_back_25 rfl v.2 (fun h5 v => ?_)
      refine zg_aload_n (q := 29) C dX7_back_28 rfl rfl ?_
      refine zg_get (j := 6) (q := 32) C bX7 (by decide) lkX7_16 dX7_back_29 rfl (okA.get v.1) ?_
      have v := v.2
      refine zg_cV0I (q := 35) C mX0_made vX0_made lmX7_180 rfl (bX0).1 v.1 (Nat.le_of_ble_eq_true rfl) ⟨Nat.le_refl _, Nat.le_refl _⟩ dX7_back_32 rfl v.2 (fun r7 h6 v => ?_)
      exact zg_iret C rfl dX7_back_35 ⟨Nat.le_refl _, Nat.le_refl _⟩ ⟨_, rfl, v⟩
    · have v := v.2 c
      refine zg_bipush (v := (-3)) (q := 20) C dX7_back_18 (by decide) rfl ?_
      exact zg_iret C rfl dX7_back_20 ⟨Nat.le_refl _, Nat.le_refl _⟩ ⟨_, rfl, v⟩
theorem rnX7_back {E : Wd} {d : Nat} {a0 : Nat} {h : Hp} {Q : Int32 → Hp → Prop} (k : vcX7_back_0 E d a0 h Q) : OkI E YX7_back (d + 1) [.ref a0] h Q :=
  zz_body2 (r := 0) mX7_back (zc_a zc_n) (Nat.le_of_ble_eq_true rfl) (fun X C => zsX7_back_0 C a0 h k)
def vcX7_best_0 (E : Wd) (d : Nat) (a0 : Nat) (h : Hp) (Q : Int32 → Hp → Prop) : Prop :=
  isO h a0 7 ∧ OkI E YX7_isPlaying d [.ref a0] h (fun r2 h1 => (¬ r2 = (0 : Int32) → okA h1 a0 7 4 ∧ okA h1 a0 7 6 ∧ isO h1 (fA h1 a0 6) 0 ∧ OkI E YX0_present d [.ref (fA h1 a0 6)] h1 (fun r4 h3 => isO h3 (fA h1 a0 4) 6 ∧ OkI E YX6_bestStep d [.ref (fA h1 a0 4), .int r4] h3 (fun r6 h5 => ((0 : Int32) ≤ r6 → Q r6 h5) ∧ (¬ (0 : Int32) ≤ r6 → Q ((-5)) h5)))) ∧ (r2 = (0 : Int32) → Q ((-3)) h1))
set_option maxRecDepth 100000 in
set_option maxHeartbeats 4000000 in
theorem zsX7_best_0 {E : Wd} {X : Mx} {d : Nat} {Q : Int32 → Hp → Prop} (C : zz_C E X YX7_best (d + 1) 0 0 (fun r h' => ∃ x : Int32, r = some (.int x) ∧ Q x h')) (a0 : Nat) (h : Hp) (v : vcX7_best_0 E d a0 h Q) : GG E X 2 0 0 0 [some (.ref a0), none] [] h := by
  refine zg_aload_n (q := 1) C dX7_best_0 rfl rfl ?_
  refine zg_cV0I (q := 4) C mX7_isPlaying vX7_isPlaying lmX7_132 rfl (bX7).1 v.1 (Nat.le_of_ble_eq_true rfl) ⟨Nat.le_refl _, Nat.le_refl _⟩ dX7_best_1 rfl v.2 (fun r2 h1 v => ?_)
  refine zg_if_ne (t := 10) (q := 7) C dX7_best_4 (by decide) rfl (fun c => ?_) (fun c => ?_)
  · have v := v.1 c
    refine zg_aload_n (q := 11) C dX7_best_10 rfl rfl ?_
    refine zg_get (j := 4) (q := 14) C bX7 (by decide) lkX7_62 dX7_best_11 rfl (okA.get v.1) ?_
    have v := v.2
    refine zg_aload_n (q := 15) C dX7_best_14 rfl rfl ?_
    refine zg_get (j := 6) (q := 18) C bX7 (by decide) lkX7_16 dX7_best_15 rfl (okA.get v.1) ?_
    have v := v.2
    refine zg_cV0I (q := 21) C mX0_present vX0_present lmX7_135 rfl (bX0).1 v.1 (Nat.le_of_ble_eq_true rfl) ⟨Nat.le_refl _, Nat.le_refl _⟩ dX7_best_18 rfl v.2 (fun r4 h3 v => ?_)
    refine zg_cV1I (q := 24) C mX6_bestStep vX6_bestStep lmX7_192 rfl (bX6).1 v.1 (Nat.le_of_ble_eq_true rfl) ⟨Nat.le_refl _, Nat.le_refl _⟩ dX7_best_21 rfl v.2 (fun r6 h5 v => ?_)
    refine zg_istore_n (q := 25) C dX7_best_24 (by decide) rfl ?_
    refine zg_iload_n (q := 26) C dX7_best_25 rfl rfl ?_
    refine zg_if_ge (t := 34) (q := 29) C dX7_best_26 (by decide) rfl (fun c => ?_) (fun c => ?_)
    · have v := v.1 c
      refine zg_iload_n (q := 35) C dX7_best_34 rfl rfl ?_
      exact zg_iret C rfl dX7_best_35 ⟨Nat.le_refl _, Nat.le_refl _⟩ ⟨_, rfl, v⟩
    · have v := v.2 c
      refine zg_bipush (v := (-5)) (q := 31) C dX7_best_29 (by decide) rfl ?_
      refine zg_goto (t := 35) C dX7_best_31 (by decide) ?_
      exact zg_iret C rfl dX7_best_35 ⟨Nat.le_refl _, Nat.le_refl _⟩ ⟨_, rfl, v⟩
  · have v := v.2 c
    refine zg_bipush (v := (-3)) (q := 9) C dX7_best_7 (by decide) rfl ?_
    exact zg_iret C rfl dX7_best_9 ⟨Nat.le_refl _, Nat.le_refl _⟩ ⟨_, rfl, v⟩
theorem rnX7_best {E : Wd} {d : Nat} {a0 : Nat} {h : Hp} {Q : Int32 → Hp → Prop} (k : vcX7_best_0 E d a0 h Q) : OkI E YX7_best (d + 1) [.ref a0] h Q :=
  zz_body2 (r := 1) mX7_best (zc_a zc_n) (Nat.le_of_ble_eq_true rfl) (fun X C => zsX7_best_0 C a0 h k)
def vcX7_line_0 (E : Wd) (d : Nat) (a0 : Nat) (x1 : Int32) (h : Hp) (Q : Int32 → Hp → Prop) : Prop :=
  isO h a0 7 ∧ OkI E YX7_isPlaying d [.ref a0] h (fun r2 h1 => (¬ r2 = (0 : Int32) → (x1 = (0 : Int32) → Q ((-1)) h1) ∧ (¬ x1 = (0 : Int32) → (((-1)) ≤ x1 → okA h1 a0 7 4 ∧ okA h1 a0 7 6 ∧ isO h1 (fA h1 a0 6) 0 ∧ OkI E YX0_present d [.ref (fA h1 a0 6)] h1 (fun r4 h3 => isO h3 (fA h1 a0 4) 6 ∧ OkI E YX6_followBest d [.ref (fA h1 a0 4), .int r4] h3 (fun r6 h5 => (¬ x1 = ((-1)) → (r6 < x1 → Q ((-1)) h5) ∧ (¬ r6 < x1 → okA h5 a0 7 4 ∧ isO h5 (fA h5 a0 4) 6 ∧ OkI E YX6_followed d [.ref (fA h5 a0 4), .int x1] h5 (fun r8 h7 => Q r8 h7))) ∧ (x1 = ((-1)) → Q r6 h5)))) ∧ (¬ ((-1)) ≤ x1 → Q ((-1)) h1))) ∧ (r2 = (0 : Int32) → Q ((-3)) h1))
set_option maxRecDepth 100000 in
set_option maxHeartbeats 4000000 in
theorem zsX7_line_0 {E : Wd} {X : Mx} {d : Nat} {Q : Int32 → Hp → Prop} (C : zz_C E X YX7_line (d + 1) 0 0 (fun r h' => ∃ x : Int32, r = some (.int x) ∧ Q x h')) (a0 : Nat) (x1 : Int32) (h : Hp) (v : vcX7_line_0 E d a0 x1 h Q) : GG E X 3 0 0 0 [some (.ref a0), some (.int x1), none] [] h := by
  refine zg_aload_n (q := 1) C dX7_line_0 rfl rfl ?_
  refine zg_cV0I (q := 4) C mX7_isPlaying vX7_isPlaying lmX7_132 rfl (bX7).1 v.1 (Nat.le_of_ble_eq_true rfl) ⟨Nat.le_refl _, Nat.le_refl _⟩ dX7_line_1 rfl v.2 (fun r2 h1 v => ?_)
  refine zg_if_ne (t := 10) (q := 7) C dX7_line_4 (by decide) rfl (fun c => ?_) (fun c => ?_)
  · have v := v.1 c
    refine zg_iload_n (q := 11) C dX7_line_10 rfl rfl ?_
    refine zg_if_eq (t := 19) (q := 14) C dX7_line_11 (by decide) rfl (fun c => ?_) (fun c => ?_)
    · have v := v.1 c
      refine zg_iconst (v := (-1)) (q := 20) C dX7_line_19 (by decide) rfl ?_
      exact zg_iret C rfl dX7_line_20 ⟨Nat.le_refl _, Nat.le_refl _⟩ ⟨_, rfl, v⟩
    · have v := v.2 c
      refine zg_iload_n (q := 15) C dX7_line_14 rfl rfl ?_
      refine zg_iconst (v := (-1)) (q := 16) C dX7_line_15 (by decide) rfl ?_
      refine zg_icmp_ge (t := 21) (q := 19) C dX7_line_16 (by decide) rfl (fun c => ?_) (fun c => ?_)
      · have v := v.1 c
        refine zg_aload_n (q := 22) C dX7_line_21 rfl rfl ?_
        refine zg_get (j := 4) (q := 25) C bX7 (by decide) lkX7_62 dX7_line_22 rfl (okA.get v.1) ?_
        have v := v.2
        refine zg_aload_n (q := 26) C dX7_line_25 rfl rfl ?_
        refine zg_get (j := 6) (q := 29) C bX7 (by decide) lkX7_16 dX7_line_26 rfl (okA.get v.1) ?_
        have v := v.2
        refine zg_cV0I (q := 32) C mX0_present vX0_present lmX7_135 rfl (bX0).1 v.1 (Nat.le_of_ble_eq_true rfl) ⟨Nat.le_refl _, Nat.le_refl _⟩ dX7_line_29 rfl v.2 (fun r4 h3 v => ?_)
        refine zg_cV1I (q := 35) C mX6_followBest vX6_followBest lmX7_195 rfl (bX6).1 v.1 (Nat.le_of_ble_eq_true rfl) ⟨Nat.le_refl _, Nat.le_refl _⟩ dX7_line_32 rfl v.2 (fun r6 h5 v => ?_)
        refine zg_istore_n (q := 36) C dX7_line_35 (by decide) rfl ?_
        refine zg_iload_n (q := 37) C dX7_line_36 rfl rfl ?_
        refine zg_iconst (v := (-1)) (q := 38) C dX7_line_37 (by decide) rfl ?_
        refine zg_icmp_ne (t := 43) (q := 41) C dX7_line_38 (by decide) rfl (fun c => ?_) (fun c => ?_)
        · have v := v.1 c
          refine zg_iload_n (q := 44) C dX7_line_43 rfl rfl ?_
          refine zg_iload_n (q := 45) C dX7_line_44 rfl rfl ?_
          refine zg_icmp_gt (t := 59) (q := 48) C dX7_line_45 (by decide) rfl (fun c => ?_) (fun c => ?_)
          · have v := v.1 c
            refine zg_iconst (v := (-1)) (q := 60) C dX7_line_59 (by decide) rfl ?_
            exact zg_iret C rfl dX7_line_60 ⟨Nat.le_refl _, Nat.le_refl _⟩ ⟨_, rfl, v⟩
          · have v := v.2 c
            refine zg_aload_n (q := 49) C dX7_line_48 rfl rfl ?_
            refine zg_get (j := 4) (q := 52) C bX7 (by decide) lkX7_62 dX7_line_49 rfl (okA.get v.1) ?_
            have v := v.2
            refine zg_iload_n (q := 53) C dX7_line_52 rfl rfl ?_
            refine zg_cV1I (q := 56) C mX6_followed vX6_followed lmX7_198 rfl (bX6).1 v.1 (Nat.le_of_ble_eq_true rfl) ⟨Nat.le_refl _, Nat.le_refl _⟩ dX7_line_53 rfl v.2 (fun r8 h7 v => ?_)
            refine zg_goto (t := 60) C dX7_line_56 (by decide) ?_
            exact zg_iret C rfl dX7_line_60 ⟨Nat.le_refl _, Nat.le_refl _⟩ ⟨_, rfl, v⟩
        · have v := v.2 c
          refine zg_iload_n (q := 42) C dX7_line_41 rfl rfl ?_
          exact zg_iret C rfl dX7_line_42 ⟨Nat.le_refl _, Nat.le_refl _⟩ ⟨_, rfl, v⟩
      · have v := v.2 c
        refine zg_iconst (v := (-1)) (q := 20) C dX7_line_19 (by decide) rfl ?_
        exact zg_iret C rfl dX7_line_20 ⟨Nat.le_refl _, Nat.le_refl _⟩ ⟨_, rfl, v⟩
  · have v := v.2 c
    refine zg_bipush (v := (-3)) (q := 9) C dX7_line_7 (by decide) rfl ?_
    exact zg_iret C rfl dX7_line_9 ⟨Nat.le_refl _, Nat.le_refl _⟩ ⟨_, rfl, v⟩
theorem rnX7_line {E : Wd} {d : Nat} {a0 : Nat} {x1 : Int32} {h : Hp} {Q : Int32 → Hp → Prop} (k : vcX7_line_0 E d a0 x1 h Q) : OkI E YX7_line (d + 1) [.ref a0, .int x1] h Q :=
  zz_body2 (r := 1) mX7_line (zc_a (zc_i zc_n)) (Nat.le_of_ble_eq_true rfl) (fun X C => zsX7_line_0 C a0 x1 h k)
def vcX7_search_0 (E : Wd) (d : Nat) (a0 : Nat) (x1 : Int32) (h : Hp) (Q : Int32 → Hp → Prop) : Prop :=
  isO h a0 7 ∧ OkI E YX7_isPlaying d [.ref a0] h (fun r2 h1 => (¬ r2 = (0 : Int32) → (x1 < (0 : Int32) → Q ((-2)) h1) ∧ (¬ x1 < (0 : Int32) → (x1 ≤ (4 : Int32) → okA h1 a0 7 4 ∧ okA h1 a0 7 6 ∧ isO h1 (fA h1 a0 6) 0 ∧ OkI E YX0_present d [.ref (fA h1 a0 6)] h1 (fun r4 h3 => OkI E YX6_searched d [.ref (fA h1 a0 4), .int r4, .int x1] h3 (fun r6 h5 => Q r6 h5))) ∧ (¬ x1 ≤ (4 : Int32) → Q ((-2)) h1))) ∧ (r2 = (0 : Int32) → Q ((-3)) h1))
set_option maxRecDepth 100000 in
set_option maxHeartbeats 4000000 in
theorem zsX7_search_0 {E : Wd} {X : Mx} {d : Nat} {Q : Int32 → Hp → Prop} (C : zz_C E X YX7_search (d + 1) 0 0 (fun r h' => ∃ x : Int32, r = some (.int x) ∧ Q x h')) (a0 : Nat) (x1 : Int32) (h : Hp) (v : vcX7_search_0 E d a0 x1 h Q) : GG E X 2 0 0 0 [some (.ref a0), some (.int x1)] [] h := by
  refine zg_aload_n (q := 1) C dX7_search_0 rfl rfl ?_
  refine zg_cV0I (q := 4) C mX7_isPlaying vX7_isPlaying lmX7_132 rfl (bX7).1 v.1 (Nat.le_of_ble_eq_true rfl) ⟨Nat.le_refl _, Nat.le_refl _⟩ dX7_search_1 rfl v.2 (fun r2 h1 v => ?_)
  refine zg_if_ne (t := 10) (q := 7) C dX7_search_4 (by decide) rfl (fun c => ?_) (fun c => ?_)
  · have v := v.1 c
    refine zg_iload_n (q := 11) C dX7_search_10 rfl rfl ?_
    refine zg_if_lt (t := 19) (q := 14) C dX7_search_11 (by decide) rfl (fun c => ?_) (fun c => ?_)
    · have v := v.1 c
      refine zg_bipush (v := (-2)) (q := 21) C dX7_search_19 (by decide) rfl ?_
      exact zg_iret C rfl dX7_search_21 ⟨Nat.le_refl _, Nat.le_refl _⟩ ⟨_, rfl, v⟩
    · have v := v.2 c
      refine zg_iload_n (q := 15) C dX7_search_14 rfl rfl ?_
      refine zg_iconst (v := 4) (q := 16) C dX7_search_15 (by decide) rfl ?_
      refine zg_icmp_le (t := 22) (q := 19) C dX7_search_16 (by decide) rfl (fun c => ?_) (fun c => ?_)
      · have v := v.1 c
        refine zg_aload_n (q := 23) C dX7_search_22 rfl rfl ?_
        refine zg_get (j := 4) (q := 26) C bX7 (by decide) lkX7_62 dX7_search_23 rfl (okA.get v.1) ?_
        have v := v.2
        refine zg_aload_n (q := 27) C dX7_search_26 rfl rfl ?_
        refine zg_get (j := 6) (q := 30) C bX7 (by decide) lkX7_16 dX7_search_27 rfl (okA.get v.1) ?_
        have v := v.2
        refine zg_cV0I (q := 33) C mX0_present vX0_present lmX7_135 rfl (bX0).1 v.1 (Nat.le_of_ble_eq_true rfl) ⟨Nat.le_refl _, Nat.le_refl _⟩ dX7_search_30 rfl v.2 (fun r4 h3 v => ?_)
        refine zg_iload_n (q := 34) C dX7_search_33 rfl rfl ?_
        refine zg_cS3IN (q := 37) C mX6_searched tX6_searched lmX7_201 rfl (Nat.le_of_ble_eq_true rfl) ⟨Nat.le_refl _, Nat.le_refl _⟩ dX7_search_34 rfl v (fun r6 h5 v => ?_)
        exact zg_iret C rfl dX7_search_37 ⟨Nat.le_refl _, Nat.le_refl _⟩ ⟨_, rfl, v⟩
      · have v := v.2 c
        refine zg_bipush (v := (-2)) (q := 21) C dX7_search_19 (by decide) rfl ?_
        exact zg_iret C rfl dX7_search_21 ⟨Nat.le_refl _, Nat.le_refl _⟩ ⟨_, rfl, v⟩
  · have v := v.2 c
    refine zg_bipush (v := (-3)) (q := 9) C dX7_search_7 (by decide) rfl ?_
    exact zg_iret C rfl dX7_search_9 ⟨Nat.le_refl _, Nat.le_refl _⟩ ⟨_, rfl, v⟩
theorem rnX7_search {E : Wd} {d : Nat} {a0 : Nat} {x1 : Int32} {h : Hp} {Q : Int32 → Hp → Prop} (k : vcX7_search_0 E d a0 x1 h Q) : OkI E YX7_search (d + 1) [.ref a0, .int x1] h Q :=
  zz_body2 (r := 0) mX7_search (zc_a (zc_i zc_n)) (Nat.le_of_ble_eq_true rfl) (fun X C => zsX7_search_0 C a0 x1 h k)
def vcX7_positions_0 (E : Wd) (d : Nat) (a0 : Nat) (x1 : Int32) (x2 : Int32) (x3 : Int32) (h : Hp) (Q : Int32 → Hp → Prop) : Prop :=
  okN h a0 7 4 ∧ (∀ z, (fN h a0 4) = some z → (x1 < (0 : Int32) → Q ((-1)) h) ∧ (¬ x1 < (0 : Int32) → ((1 : Int32) < x1 → Q ((-1)) h) ∧ (¬ (1 : Int32) < x1 → (x2 < ((-1)) → Q ((-1)) h) ∧ (¬ x2 < ((-1)) → (x2 ≤ (1 : Int32) → (x3 < (0 : Int32) → Q ((-1)) h) ∧ (¬ x3 < (0 : Int32) → (x3 ≤ (2 : Int32) → okA h a0 7 4 ∧ isO h (fA h a0 4) 6 ∧ OkI E YX6_numberWithValue d [.ref (fA h a0 4), .int x1, .int x2, .int x3] h (fun r2 h1 => Q r2 h1)) ∧ (¬ x3 ≤ (2 : Int32) → Q ((-1)) h))) ∧ (¬ x2 ≤ (1 : Int32) → Q ((-1)) h))))) ∧ ((fN h a0 4) = none → Q ((-3)) h)
set_option maxRecDepth 100000 in
set_option maxHeartbeats 4000000 in
theorem zsX7_positions_0 {E : Wd} {X : Mx} {d : Nat} {Q : Int32 → Hp → Prop} (C : zz_C E X YX7_positions (d + 1) 0 0 (fun r h' => ∃ x : Int32, r = some (.int x) ∧ Q x h')) (a0 : Nat) (x1 : Int32) (x2 : Int32) (x3 : Int32) (h : Hp) (v : vcX7_positions_0 E d a0 x1 x2 x3 h Q) : GG E X 4 0 0 0 [some (.ref a0), some (.int x1), some (.int x2), some (.int x3)] [] h := by
  refine zg_aload_n (q := 1) C dX7_positions_0 rfl rfl ?_
  refine zg_get (j := 4) (q := 4) C bX7 (by decide) lkX7_62 dX7_positions_1 rfl (okN.get v.1) ?_
  have v := v.2
  refine zg_nonnull (t := 10) (q := 7) C dX7_positions_4 (by decide) rfl (fun z c => ?_) (fun c => ?_)
  · have v := v.1 z c
    refine zg_iload_n (q := 11) C dX7_positions_10 rfl rfl ?_
    refine zg_if_lt (t := 29) (q := 14) C dX7_positions_11 (by decide) rfl (fun c => ?_) (fun c => ?_)
    · have v := v.1 c
      refine zg_iconst (v := (-1)) (q := 30) C dX7_positions_29 (by decide) rfl ?_
      exact zg_iret C rfl dX7_positions_30 ⟨Nat.le_refl _, Nat.le_refl _⟩ ⟨_, rfl, v⟩
    · have v := v.2 c
      refine zg_iload_n (q := 15) C dX7_positions_14 rfl rfl ?_
      refine zg_iconst (v := 1) (q := 16) C dX7_positions_15 (by decide) rfl ?_
      refine zg_icmp_gt (t := 29) (q := 19) C dX7_positions_16 (by decide) rfl (fun c => ?_) (fun c => ?_)
      · have v := v.1 c
        refine zg_iconst (v := (-1)) (q := 30) C dX7_positions_29 (by decide) rfl ?_
        exact zg_iret C rfl dX7_positions_30 ⟨Nat.le_refl _, Nat.le_refl _⟩ ⟨_, rfl, v⟩
      · have v := v.2 c
        refine zg_iload_n (q := 20) C dX7_positions_19 rfl rfl ?_
        refine zg_iconst (v := (-1)) (q := 21) C dX7_positions_20 (by decide) rfl ?_
        refine zg_icmp_lt (t := 29) (q := 24) C dX7_positions_21 (by decide) rfl (fun c => ?_) (fun c => ?_)
        · have v := v.1 c
          refine zg_iconst (v := (-1)) (q := 30) C dX7_positions_29 (by decide) rfl ?_
          exact zg_iret C rfl dX7_positions_30 ⟨Nat.le_refl _, Nat.le_refl _⟩ ⟨_, rfl, v⟩
        · have v := v.2 c
          refine zg_iload_n (q := 25) C dX7_positions_24 rfl rfl ?_
          refine zg_iconst (v := 1) (q := 26) C dX7_positions_25 (by decide) rfl ?_
          refine zg_icmp_le (t := 31) (q := 29) C dX7_positions_26 (by decide) rfl (fun c => ?_) (fun c => ?_)
          · have v := v.1 c
            refine zg_iload_n (q := 32) C dX7_positions_31 rfl rfl ?_
            refine zg_if_lt (t := 40) (q := 35) C dX7_positions_32 (by decide) rfl (fun c => ?_) (fun c => ?_)
            · have v := v.1 c
              refine zg_iconst (v := (-1)) (q := 41) C dX7_positions_40 (by decide) rfl ?_
              exact zg_iret C rfl dX7_positions_41 ⟨Nat.le_refl _, Nat.le_refl _⟩ ⟨_, rfl, v⟩
            · have v := v.2 c
              refine zg_iload_n (q := 36) C dX7_positions_35 rfl rfl ?_
              refine zg_iconst (v := 2) (q := 37) C dX7_positions_36 (by decide) rfl ?_
              refine zg_icmp_le (t := 42) (q := 40) C dX7_positions_37 (by decide) rfl (fun c => ?_) (fun c => ?_)
              · have v := v.1 c
                refine zg_aload_n (q := 43) C dX7_positions_42 rfl rfl ?_
                refine zg_get (j := 4) (q := 46) C bX7 (by decide) lkX7_62 dX7_positions_43 rfl (okA.get v.1) ?_
                have v := v.2
                refine zg_iload_n (q := 47) C dX7_positions_46 rfl rfl ?_
                refine zg_iload_n (q := 48) C dX7_positions_47 rfl rfl ?_
                refine zg_iload_n (q := 49) C dX7_positions_48 rfl rfl ?_
                refine zg_cV3I (q := 52) C mX6_numberWithValue vX6_numberWithValue lmX7_205 rfl (bX6).1 v.1 (Nat.le_of_ble_eq_true rfl) ⟨Nat.le_refl _, Nat.le_refl _⟩ dX7_positions_49 rfl v.2 (fun r2 h1 v => ?_)
                exact zg_iret C rfl dX7_positions_52 ⟨Nat.le_refl _, Nat.le_refl _⟩ ⟨_, rfl, v⟩
              · have v := v.2 c
                refine zg_iconst (v := (-1)) (q := 41) C dX7_positions_40 (by decide) rfl ?_
                exact zg_iret C rfl dX7_positions_41 ⟨Nat.le_refl _, Nat.le_refl _⟩ ⟨_, rfl, v⟩
          · have v := v.2 c
            refine zg_iconst (v := (-1)) (q := 30) C dX7_positions_29 (by decide) rfl ?_
            exact zg_iret C rfl dX7_positions_30 ⟨Nat.le_refl _, Nat.le_refl _⟩ ⟨_, rfl, v⟩
  · have v := v.2 c
    refine zg_bipush (v := (-3)) (q := 9) C dX7_positions_7 (by decide) rfl ?_
    exact zg_iret C rfl dX7_positions_9 ⟨Nat.le_refl _, Nat.le_refl _⟩ ⟨_, rfl, v⟩
theorem rnX7_positions {E : Wd} {d : Nat} {a0 : Nat} {x1 : Int32} {x2 : Int32} {x3 : Int32} {h : Hp} {Q : Int32 → Hp → Prop} (k : vcX7_positions_0 E d a0 x1 x2 x3 h Q) : OkI E YX7_positions (d + 1) [.ref a0, .int x1, .int x2, .int x3] h Q :=
  zz_body2 (r := 0) mX7_positions (zc_a (zc_i (zc_i (zc_i zc_n)))) (Nat.le_of_ble_eq_true rfl) (fun X C => zsX7_positions_0 C a0 x1 x2 x3 h k)
def vcX7_spread_0 (E : Wd) (d : Nat) (a0 : Nat) (x1 : Int32) (x2 : Int32) (x3 : Int32) (h : Hp) (Q : Int32 → Hp → Prop) : Prop :=
  okN h a0 7 4 ∧ (∀ z, (fN h a0 4) = some z → (x1 < (0 : Int32) → Q ((-1)) h) ∧ (¬ x1 < (0 : Int32) → ((1 : Int32) < x1 → Q ((-1)) h) ∧ (¬ (1 : Int32) < x1 → (x2 < (0 : Int32) → Q ((-1)) h) ∧ (¬ x2 < (0 : Int32) → (x2 ≤ (1 : Int32) → ((0 : Int32) ≤ x3 → okA h a0 7 4 ∧ isO h (fA h a0 4) 6 ∧ OkI E YX6_numberWithDistance d [.ref (fA h a0 4), .int x1, .int x2, .int x3] h (fun r2 h1 => Q r2 h1)) ∧ (¬ (0 : Int32) ≤ x3 → Q ((-2)) h)) ∧ (¬ x2 ≤ (1 : Int32) → Q ((-1)) h))))) ∧ ((fN h a0 4) = none → Q ((-3)) h)
set_option maxRecDepth 100000 in
set_option maxHeartbeats 4000000 in
theorem zsX7_spread_0 {E : Wd} {X : Mx} {d : Nat} {Q : Int32 → Hp → Prop} (C : zz_C E X YX7_spread (d + 1) 0 0 (fun r h' => ∃ x : Int32, r = some (.int x) ∧ Q x h')) (a0 : Nat) (x1 : Int32) (x2 : Int32) (x3 : Int32) (h : Hp) (v : vcX7_spread_0 E d a0 x1 x2 x3 h Q) : GG E X 4 0 0 0 [some (.ref a0), some (.int x1), some (.int x2), some (.int x3)] [] h := by
  refine zg_aload_n (q := 1) C dX7_spread_0 rfl rfl ?_
  refine zg_get (j := 4) (q := 4) C bX7 (by decide) lkX7_62 dX7_spread_1 rfl (okN.get v.1) ?_
  have v := v.2
  refine zg_nonnull (t := 10) (q := 7) C dX7_spread_4 (by decide) rfl (fun z c => ?_) (fun c => ?_)
  · have v := v.1 z c
    refine zg_iload_n (q := 11) C dX7_spread_10 rfl rfl ?_
    refine zg_if_lt (t := 28) (q := 14) C dX7_spread_11 (by decide) rfl (fun c => ?_) (fun c => ?_)
    · have v := v.1 c
      refine zg_iconst (v := (-1)) (q := 29) C dX7_spread_28 (by decide) rfl ?_
      exact zg_iret C rfl dX7_spread_29 ⟨Nat.le_refl _, Nat.le_refl _⟩ ⟨_, rfl, v⟩
    · have v := v.2 c
      refine zg_iload_n (q := 15) C dX7_spread_14 rfl rfl ?_
      refine zg_iconst (v := 1) (q := 16) C dX7_spread_15 (by decide) rfl ?_
      refine zg_icmp_gt (t := 28) (q := 19) C dX7_spread_16 (by decide) rfl (fun c => ?_) (fun c => ?_)
      · have v := v.1 c
        refine zg_iconst (v := (-1)) (q := 29) C dX7_spread_28 (by decide) rfl ?_
        exact zg_iret C rfl dX7_spread_29 ⟨Nat.le_refl _, Nat.le_refl _⟩ ⟨_, rfl, v⟩
      · have v := v.2 c
        refine zg_iload_n (q := 20) C dX7_spread_19 rfl rfl ?_
        refine zg_if_lt (t := 28) (q := 23) C dX7_spread_20 (by decide) rfl (fun c => ?_) (fun c => ?_)
        · have v := v.1 c
          refine zg_iconst (v := (-1)) (q := 29) C dX7_spread_28 (by decide) rfl ?_
          exact zg_iret C rfl dX7_spread_29 ⟨Nat.le_refl _, Nat.le_refl _⟩ ⟨_, rfl, v⟩
        · have v := v.2 c
          refine zg_iload_n (q := 24) C dX7_spread_23 rfl rfl ?_
          refine zg_iconst (v := 1) (q := 25) C dX7_spread_24 (by decide) rfl ?_
          refine zg_icmp_le (t := 30) (q := 28) C dX7_spread_25 (by decide) rfl (fun c => ?_) (fun c => ?_)
          · have v := v.1 c
            refine zg_iload_n (q := 31) C dX7_spread_30 rfl rfl ?_
            refine zg_if_ge (t := 37) (q := 34) C dX7_spread_31 (by decide) rfl (fun c => ?_) (fun c => ?_)
            · have v := v.1 c
              refine zg_aload_n (q := 38) C dX7_spread_37 rfl rfl ?_
              refine zg_get (j := 4) (q := 41) C bX7 (by decide) lkX7_62 dX7_spread_38 rfl (okA.get v.1) ?_
              have v := v.2
              refine zg_iload_n (q := 42) C dX7_spread_41 rfl rfl ?_
              refine zg_iload_n (q := 43) C dX7_spread_42 rfl rfl ?_
              refine zg_iload_n (q := 44) C dX7_spread_43 rfl rfl ?_
              refine zg_cV3I (q := 47) C mX6_numberWithDistance vX6_numberWithDistance lmX7_208 rfl (bX6).1 v.1 (Nat.le_of_ble_eq_true rfl) ⟨Nat.le_refl _, Nat.le_refl _⟩ dX7_spread_44 rfl v.2 (fun r2 h1 v => ?_)
              exact zg_iret C rfl dX7_spread_47 ⟨Nat.le_refl _, Nat.le_refl _⟩ ⟨_, rfl, v⟩
            · have v := v.2 c
              refine zg_bipush (v := (-2)) (q := 36) C dX7_spread_34 (by decide) rfl ?_
              exact zg_iret C rfl dX7_spread_36 ⟨Nat.le_refl _, Nat.le_refl _⟩ ⟨_, rfl, v⟩
          · have v := v.2 c
            refine zg_iconst (v := (-1)) (q := 29) C dX7_spread_28 (by decide) rfl ?_
            exact zg_iret C rfl dX7_spread_29 ⟨Nat.le_refl _, Nat.le_refl _⟩ ⟨_, rfl, v⟩
  · have v := v.2 c
    refine zg_bipush (v := (-3)) (q := 9) C dX7_spread_7 (by decide) rfl ?_
    exact zg_iret C rfl dX7_spread_9 ⟨Nat.le_refl _, Nat.le_refl _⟩ ⟨_, rfl, v⟩
theorem rnX7_spread {E : Wd} {d : Nat} {a0 : Nat} {x1 : Int32} {x2 : Int32} {x3 : Int32} {h : Hp} {Q : Int32 → Hp → Prop} (k : vcX7_spread_0 E d a0 x1 x2 x3 h Q) : OkI E YX7_spread (d + 1) [.ref a0, .int x1, .int x2, .int x3] h Q :=
  zz_body2 (r := 0) mX7_spread (zc_a (zc_i (zc_i (zc_i zc_n)))) (Nat.le_of_ble_eq_true rfl) (fun X C => zsX7_spread_0 C a0 x1 x2 x3 h k)
def vcX7_longest_0 (E : Wd) (d : Nat) (a0 : Nat) (x1 : Int32) (x2 : Int32) (h : Hp) (Q : Int32 → Hp → Prop) : Prop :=
  okN h a0 7 4 ∧ (∀ z, (fN h a0 4) = some z → (x1 < (0 : Int32) → Q ((-1)) h) ∧ (¬ x1 < (0 : Int32) → ((1 : Int32) < x1 → Q ((-1)) h) ∧ (¬ (1 : Int32) < x1 → (x2 < (0 : Int32) → Q ((-1)) h) ∧ (¬ x2 < (0 : Int32) → (x2 ≤ (1 : Int32) → okA h a0 7 4 ∧ isO h (fA h a0 4) 6 ∧ OkI E YX6_mostDistant d [.ref (fA h a0 4), .int x1] h (fun r2 h1 => ((0 : Int32) ≤ r2 → (¬ x2 = (1 : Int32) → okA h1 a0 7 4 ∧ isO h1 (fA h1 a0 4) 6 ∧ OkI E YX6_distanceOf d [.ref (fA h1 a0 4), .int x1, .int r2] h1 (fun r4 h3 => Q r4 h3)) ∧ (x2 = (1 : Int32) → Q r2 h1)) ∧ (¬ (0 : Int32) ≤ r2 → Q ((-5)) h1))) ∧ (¬ x2 ≤ (1 : Int32) → Q ((-1)) h))))) ∧ ((fN h a0 4) = none → Q ((-3)) h)
set_option maxRecDepth 100000 in
set_option maxHeartbeats 4000000 in
theorem zsX7_longest_0 {E : Wd} {X : Mx} {d : Nat} {Q : Int32 → Hp → Prop} (C : zz_C E X YX7_longest (d + 1) 0 0 (fun r h' => ∃ x : Int32, r = some (.int x) ∧ Q x h')) (a0 : Nat) (x1 : Int32) (x2 : Int32) (h : Hp) (v : vcX7_longest_0 E d a0 x1 x2 h Q) : GG E X 4 0 0 0 [some (.ref a0), some (.int x1), some (.int x2), none] [] h := by
  refine zg_aload_n (q := 1) C dX7_longest_0 rfl rfl ?_
  refine zg_get (j := 4) (q := 4) C bX7 (by decide) lkX7_62 dX7_longest_1 rfl (okN.get v.1) ?_
  have v := v.2
  refine zg_nonnull (t := 10) (q := 7) C dX7_longest_4 (by decide) rfl (fun z c => ?_) (fun c => ?_)
  · have v := v.1 z c
    refine zg_iload_n (q := 11) C dX7_longest_10 rfl rfl ?_
    refine zg_if_lt (t := 28) (q := 14) C dX7_longest_11 (by decide) rfl (fun c => ?_) (fun c => ?_)
    · have v := v.1 c
      refine zg_iconst (v := (-1)) (q := 29) C dX7_longest_28 (by decide) rfl ?_
      exact zg_iret C rfl dX7_longest_29 ⟨Nat.le_refl _, Nat.le_refl _⟩ ⟨_, rfl, v⟩
    · have v := v.2 c
      refine zg_iload_n (q := 15) C dX7_longest_14 rfl rfl ?_
      refine zg_iconst (v := 1) (q := 16) C dX7_longest_15 (by decide) rfl ?_
      refine zg_icmp_gt (t := 28) (q := 19) C dX7_longest_16 (by decide) rfl (fun c => ?_) (fun c => ?_)
      · have v := v.1 c
        refine zg_iconst (v := (-1)) (q := 29) C dX7_longest_28 (by decide) rfl ?_
        exact zg_iret C rfl dX7_longest_29 ⟨Nat.le_refl _, Nat.le_refl _⟩ ⟨_, rfl, v⟩
      · have v := v.2 c
        refine zg_iload_n (q := 20) C dX7_longest_19 rfl rfl ?_
        refine zg_if_lt (t := 28) (q := 23) C dX7_longest_20 (by decide) rfl (fun c => ?_) (fun c => ?_)
        · have v := v.1 c
          refine zg_iconst (v := (-1)) (q := 29) C dX7_longest_28 (by decide) rfl ?_
          exact zg_iret C rfl dX7_longest_29 ⟨Nat.le_refl _, Nat.le_refl _⟩ ⟨_, rfl, v⟩
        · have v := v.2 c
          refine zg_iload_n (q := 24) C dX7_longest_23 rfl rfl ?_
          refine zg_iconst (v := 1) (q := 25) C dX7_longest_24 (by decide) rfl ?_
          refine zg_icmp_le (t := 30) (q := 28) C dX7_longest_25 (by decide) rfl (fun c => ?_) (fun c => ?_)
          · have v := v.1 c
            refine zg_aload_n (q := 31) C dX7_longest_30 rfl rfl ?_
            refine zg_get (j := 4) (q := 34) C bX7 (by decide) lkX7_62 dX7_longest_31 rfl (okA.get v.1) ?_
            have v := v.2
            refine zg_iload_n (q := 35) C dX7_longest_34 rfl rfl ?_
            refine zg_cV1I (q := 38) C mX6_mostDistant vX6_mostDistant lmX7_211 rfl (bX6).1 v.1 (Nat.le_of_ble_eq_true rfl) ⟨Nat.le_refl _, Nat.le_refl _⟩ dX7_longest_35 rfl v.2 (fun r2 h1 v => ?_)
            refine zg_istore_n (q := 39) C dX7_longest_38 (by decide) rfl ?_
            refine zg_iload_n (q := 40) C dX7_longest_39 rfl rfl ?_
            refine zg_if_ge (t := 46) (q := 43) C dX7_longest_40 (by decide) rfl (fun c => ?_) (fun c => ?_)
            · have v := v.1 c
              refine zg_iload_n (q := 47) C dX7_longest_46 rfl rfl ?_
              refine zg_iconst (v := 1) (q := 48) C dX7_longest_47 (by decide) rfl ?_
              refine zg_icmp_ne (t := 55) (q := 51) C dX7_longest_48 (by decide) rfl (fun c => ?_) (fun c => ?_)
              · have v := v.1 c
                refine zg_aload_n (q := 56) C dX7_longest_55 rfl rfl ?_
                refine zg_get (j := 4) (q := 59) C bX7 (by decide) lkX7_62 dX7_longest_56 rfl (okA.get v.1) ?_
                have v := v.2
                refine zg_iload_n (q := 60) C dX7_longest_59 rfl rfl ?_
                refine zg_iload_n (q := 61) C dX7_longest_60 rfl rfl ?_
                refine zg_cV2I (q := 64) C mX6_distanceOf vX6_distanceOf lmX7_214 rfl (bX6).1 v.1 (Nat.le_of_ble_eq_true rfl) ⟨Nat.le_refl _, Nat.le_refl _⟩ dX7_longest_61 rfl v.2 (fun r4 h3 v => ?_)
                exact zg_iret C rfl dX7_longest_64 ⟨Nat.le_refl _, Nat.le_refl _⟩ ⟨_, rfl, v⟩
              · have v := v.2 c
                refine zg_iload_n (q := 52) C dX7_longest_51 rfl rfl ?_
                refine zg_goto (t := 64) C dX7_longest_52 (by decide) ?_
                exact zg_iret C rfl dX7_longest_64 ⟨Nat.le_refl _, Nat.le_refl _⟩ ⟨_, rfl, v⟩
            · have v := v.2 c
              refine zg_bipush (v := (-5)) (q := 45) C dX7_longest_43 (by decide) rfl ?_
              exact zg_iret C rfl dX7_longest_45 ⟨Nat.le_refl _, Nat.le_refl _⟩ ⟨_, rfl, v⟩
          · have v := v.2 c
            refine zg_iconst (v := (-1)) (q := 29) C dX7_longest_28 (by decide) rfl ?_
            exact zg_iret C rfl dX7_longest_29 ⟨Nat.le_refl _, Nat.le_refl _⟩ ⟨_, rfl, v⟩
  · have v := v.2 c
    refine zg_bipush (v := (-3)) (q := 9) C dX7_longest_7 (by decide) rfl ?_
    exact zg_iret C rfl dX7_longest_9 ⟨Nat.le_refl _, Nat.le_refl _⟩ ⟨_, rfl, v⟩
theorem rnX7_longest {E : Wd} {d : Nat} {a0 : Nat} {x1 : Int32} {x2 : Int32} {h : Hp} {Q : Int32 → Hp → Prop} (k : vcX7_longest_0 E d a0 x1 x2 h Q) : OkI E YX7_longest (d + 1) [.ref a0, .int x1, .int x2] h Q :=
  zz_body2 (r := 1) mX7_longest (zc_a (zc_i (zc_i zc_n))) (Nat.le_of_ble_eq_true rfl) (fun X C => zsX7_longest_0 C a0 x1 x2 h k)
def vcX7_zugzwang_0 (E : Wd) (d : Nat) (a0 : Nat) (x1 : Int32) (h : Hp) (Q : Int32 → Hp → Prop) : Prop :=
  okN h a0 7 4 ∧ (∀ z, (fN h a0 4) = some z → (((-1)) ≤ x1 → (¬ x1 = ((-1)) → okA h a0 7 4 ∧ isO h (fA h a0 4) 6 ∧ OkI E YX6_mutualZugzwang d [.ref (fA h a0 4), .int x1] h (fun r2 h1 => Q r2 h1)) ∧ (x1 = ((-1)) → okA h a0 7 4 ∧ isO h (fA h a0 4) 6 ∧ OkI E YX6_mutualZugzwangs d [.ref (fA h a0 4)] h (fun r4 h3 => Q r4 h3))) ∧ (¬ ((-1)) ≤ x1 → Q ((-1)) h)) ∧ ((fN h a0 4) = none → Q ((-3)) h)
set_option maxRecDepth 100000 in
set_option maxHeartbeats 4000000 in
theorem zsX7_zugzwang_0 {E : Wd} {X : Mx} {d : Nat} {Q : Int32 → Hp → Prop} (C : zz_C E X YX7_zugzwang (d + 1) 0 0 (fun r h' => ∃ x : Int32, r = some (.int x) ∧ Q x h')) (a0 : Nat) (x1 : Int32) (h : Hp) (v : vcX7_zugzwang_0 E d a0 x1 h Q) : GG E X 2 0 0 0 [some (.ref a0), some (.int x1)] [] h := by
  refine zg_aload_n (q := 1) C dX7_zugzwang_0 rfl rfl ?_
  refine zg_get (j := 4) (q := 4) C bX7 (by decide) lkX7_62 dX7_zugzwang_1 rfl (okN.get v.1) ?_
  have v := v.2
  refine zg_nonnull (t := 10) (q := 7) C dX7_zugzwang_4 (by decide) rfl (fun z c => ?_) (fun c => ?_)
  · have v := v.1 z c
    refine zg_iload_n (q := 11) C dX7_zugzwang_10 rfl rfl ?_
    refine zg_iconst (v := (-1)) (q := 12) C dX7_zugzwang_11 (by decide) rfl ?_
    refine zg_icmp_ge (t := 17) (q := 15) C dX7_zugzwang_12 (by decide) rfl (fun c => ?_) (fun c => ?_)
    · have v := v.1 c
      refine zg_iload_n (q := 18) C dX7_zugzwang_17 rfl rfl ?_
      refine zg_iconst (v := (-1)) (q := 19) C dX7_zugzwang_18 (by decide) rfl ?_
      refine zg_icmp_ne (t := 32) (q := 22) C dX7_zugzwang_19 (by decide) rfl (fun c => ?_) (fun c => ?_)
      · have v := v.1 c
        refine zg_aload_n (q := 33) C dX7_zugzwang_32 rfl rfl ?_
        refine zg_get (j := 4) (q := 36) C bX7 (by decide) lkX7_62 dX7_zugzwang_33 rfl (okA.get v.1) ?_
        have v := v.2
        refine zg_iload_n (q := 37) C dX7_zugzwang_36 rfl rfl ?_
        refine zg_cV1I (q := 40) C mX6_mutualZugzwang vX6_mutualZugzwang lmX7_220 rfl (bX6).1 v.1 (Nat.le_of_ble_eq_true rfl) ⟨Nat.le_refl _, Nat.le_refl _⟩ dX7_zugzwang_37 rfl v.2 (fun r2 h1 v => ?_)
        exact zg_iret C rfl dX7_zugzwang_40 ⟨Nat.le_refl _, Nat.le_refl _⟩ ⟨_, rfl, v⟩
      · have v := v.2 c
        refine zg_aload_n (q := 23) C dX7_zugzwang_22 rfl rfl ?_
        refine zg_get (j := 4) (q := 26) C bX7 (by decide) lkX7_62 dX7_zugzwang_23 rfl (okA.get v.1) ?_
        have v := v.2
        refine zg_cV0I (q := 29) C mX6_mutualZugzwangs vX6_mutualZugzwangs lmX7_217 rfl (bX6).1 v.1 (Nat.le_of_ble_eq_true rfl) ⟨Nat.le_refl _, Nat.le_refl _⟩ dX7_zugzwang_26 rfl v.2 (fun r4 h3 v => ?_)
        refine zg_goto (t := 40) C dX7_zugzwang_29 (by decide) ?_
        exact zg_iret C rfl dX7_zugzwang_40 ⟨Nat.le_refl _, Nat.le_refl _⟩ ⟨_, rfl, v⟩
    · have v := v.2 c
      refine zg_iconst (v := (-1)) (q := 16) C dX7_zugzwang_15 (by decide) rfl ?_
      exact zg_iret C rfl dX7_zugzwang_16 ⟨Nat.le_refl _, Nat.le_refl _⟩ ⟨_, rfl, v⟩
  · have v := v.2 c
    refine zg_bipush (v := (-3)) (q := 9) C dX7_zugzwang_7 (by decide) rfl ?_
    exact zg_iret C rfl dX7_zugzwang_9 ⟨Nat.le_refl _, Nat.le_refl _⟩ ⟨_, rfl, v⟩
theorem rnX7_zugzwang {E : Wd} {d : Nat} {a0 : Nat} {x1 : Int32} {h : Hp} {Q : Int32 → Hp → Prop} (k : vcX7_zugzwang_0 E d a0 x1 h Q) : OkI E YX7_zugzwang (d + 1) [.ref a0, .int x1] h Q :=
  zz_body2 (r := 0) mX7_zugzwang (zc_a (zc_i zc_n)) (Nat.le_of_ble_eq_true rfl) (fun X C => zsX7_zugzwang_0 C a0 x1 h k)
def vcX7_unlike_0 (E : Wd) (d : Nat) (a0 : Nat) (h : Hp) (Q : Int32 → Hp → Prop) : Prop :=
  isO h a0 7 ∧ OkI E YX7_isPlaying d [.ref a0] h (fun r2 h1 => (¬ r2 = (0 : Int32) → okA h1 a0 7 4 ∧ okA h1 a0 7 6 ∧ isO h1 (fA h1 a0 6) 0 ∧ OkI E YX0_present d [.ref (fA h1 a0 6)] h1 (fun r4 h3 => isO h3 (fA h1 a0 4) 6 ∧ OkI E YX6_unlikeImages d [.ref (fA h1 a0 4), .int r4] h3 (fun r6 h5 => Q r6 h5))) ∧ (r2 = (0 : Int32) → Q ((-3)) h1))
set_option maxRecDepth 100000 in
set_option maxHeartbeats 4000000 in
theorem zsX7_unlike_0 {E : Wd} {X : Mx} {d : Nat} {Q : Int32 → Hp → Prop} (C : zz_C E X YX7_unlike (d + 1) 0 0 (fun r h' => ∃ x : Int32, r = some (.int x) ∧ Q x h')) (a0 : Nat) (h : Hp) (v : vcX7_unlike_0 E d a0 h Q) : GG E X 1 0 0 0 [some (.ref a0)] [] h := by
  refine zg_aload_n (q := 1) C dX7_unlike_0 rfl rfl ?_
  refine zg_cV0I (q := 4) C mX7_isPlaying vX7_isPlaying lmX7_132 rfl (bX7).1 v.1 (Nat.le_of_ble_eq_true rfl) ⟨Nat.le_refl _, Nat.le_refl _⟩ dX7_unlike_1 rfl v.2 (fun r2 h1 v => ?_)
  refine zg_if_ne (t := 10) (q := 7) C dX7_unlike_4 (by decide) rfl (fun c => ?_) (fun c => ?_)
  · have v := v.1 c
    refine zg_aload_n (q := 11) C dX7_unlike_10 rfl rfl ?_
    refine zg_get (j := 4) (q := 14) C bX7 (by decide) lkX7_62 dX7_unlike_11 rfl (okA.get v.1) ?_
    have v := v.2
    refine zg_aload_n (q := 15) C dX7_unlike_14 rfl rfl ?_
    refine zg_get (j := 6) (q := 18) C bX7 (by decide) lkX7_16 dX7_unlike_15 rfl (okA.get v.1) ?_
    have v := v.2
    refine zg_cV0I (q := 21) C mX0_present vX0_present lmX7_135 rfl (bX0).1 v.1 (Nat.le_of_ble_eq_true rfl) ⟨Nat.le_refl _, Nat.le_refl _⟩ dX7_unlike_18 rfl v.2 (fun r4 h3 v => ?_)
    refine zg_cV1I (q := 24) C mX6_unlikeImages vX6_unlikeImages lmX7_223 rfl (bX6).1 v.1 (Nat.le_of_ble_eq_true rfl) ⟨Nat.le_refl _, Nat.le_refl _⟩ dX7_unlike_21 rfl v.2 (fun r6 h5 v => ?_)
    exact zg_iret C rfl dX7_unlike_24 ⟨Nat.le_refl _, Nat.le_refl _⟩ ⟨_, rfl, v⟩
  · have v := v.2 c
    refine zg_bipush (v := (-3)) (q := 9) C dX7_unlike_7 (by decide) rfl ?_
    exact zg_iret C rfl dX7_unlike_9 ⟨Nat.le_refl _, Nat.le_refl _⟩ ⟨_, rfl, v⟩
theorem rnX7_unlike {E : Wd} {d : Nat} {a0 : Nat} {h : Hp} {Q : Int32 → Hp → Prop} (k : vcX7_unlike_0 E d a0 h Q) : OkI E YX7_unlike (d + 1) [.ref a0] h Q :=
  zz_body2 (r := 0) mX7_unlike (zc_a zc_n) (Nat.le_of_ble_eq_true rfl) (fun X C => zsX7_unlike_0 C a0 h k)
def vcX7_image_0 (E : Wd) (d : Nat) (a0 : Nat) (h : Hp) (Q : Int32 → Hp → Prop) : Prop :=
  okP h a0 7 8 ∧ mB 1 ∧ ∀ h1, h1 = pF h a0 8 (.int 1) → okN h1 a0 7 4 ∧ okP h1 a0 7 5 ∧ ∀ h2, h2 = pF h1 a0 5 (va_rf (fN h1 a0 4)) → okA h2 a0 7 7 ∧ okA h2 a0 7 6 ∧ isO h2 (fA h2 a0 7) 0 ∧ OkV E YX0_copy d [.ref (fA h2 a0 7), .ref (fA h2 a0 6)] h2 (fun h3 => okN h3 a0 7 4 ∧ (∀ z, (fN h3 a0 4) = some z → Q 1 h3) ∧ ((fN h3 a0 4) = none → Q 0 h3))
set_option maxRecDepth 100000 in
set_option maxHeartbeats 4000000 in
theorem zsX7_image_0 {E : Wd} {X : Mx} {d : Nat} {Q : Int32 → Hp → Prop} (C : zz_C E X YX7_image (d + 1) 0 0 (fun r h' => ∃ x : Int32, r = some (.int x) ∧ Q x h')) (a0 : Nat) (h : Hp) (v : vcX7_image_0 E d a0 h Q) : GG E X 1 0 0 0 [some (.ref a0)] [] h := by
  refine zg_aload_n (q := 1) C dX7_image_0 rfl rfl ?_
  refine zg_iconst (v := 1) (q := 2) C dX7_image_1 (by decide) rfl ?_
  refine zg_put (j := 8) (q := 5) C bX7 (by decide) lkX7_226 dX7_image_2 rfl rfl v.1 (zn_b v.2.1) (zf_b v.2.1) ?_
  have v := v.2.2 _ rfl
  refine zg_aload_n (q := 6) C dX7_image_5 rfl rfl ?_
  refine zg_aload_n (q := 7) C dX7_image_6 rfl rfl ?_
  refine zg_get (j := 4) (q := 10) C bX7 (by decide) lkX7_62 dX7_image_7 rfl (okN.get v.1) ?_
  have v := v.2
  refine zg_put (j := 5) (q := 13) C bX7 (by decide) lkX7_230 dX7_image_10 rfl rfl v.1 (zn_o _).1 (zn_o _).2 ?_
  have v := v.2 _ rfl
  refine zg_aload_n (q := 14) C dX7_image_13 rfl rfl ?_
  refine zg_get (j := 7) (q := 17) C bX7 (by decide) lkX7_20 dX7_image_14 rfl (okA.get v.1) ?_
  have v := v.2
  refine zg_aload_n (q := 18) C dX7_image_17 rfl rfl ?_
  refine zg_get (j := 6) (q := 21) C bX7 (by decide) lkX7_16 dX7_image_18 rfl (okA.get v.1) ?_
  have v := v.2
  refine zg_cV1V (q := 24) C mX0_copy vX0_copy lmX7_233 rfl (bX0).1 v.1 (Nat.le_of_ble_eq_true rfl) ⟨Nat.le_refl _, Nat.le_refl _⟩ dX7_image_21 rfl v.2 (fun h3 v => ?_)
  refine zg_aload_n (q := 25) C dX7_image_24 rfl rfl ?_
  refine zg_get (j := 4) (q := 28) C bX7 (by decide) lkX7_62 dX7_image_25 rfl (okN.get v.1) ?_
  have v := v.2
  refine zg_nonnull (t := 35) (q := 31) C dX7_image_28 (by decide) rfl (fun z c => ?_) (fun c => ?_)
  · have v := v.1 z c
    refine zg_iconst (v := 1) (q := 36) C dX7_image_35 (by decide) rfl ?_
    exact zg_iret C rfl dX7_image_36 ⟨Nat.le_refl _, Nat.le_refl _⟩ ⟨_, rfl, v⟩
  · have v := v.2 c
    refine zg_iconst (v := 0) (q := 32) C dX7_image_31 (by decide) rfl ?_
    refine zg_goto (t := 36) C dX7_image_32 (by decide) ?_
    exact zg_iret C rfl dX7_image_36 ⟨Nat.le_refl _, Nat.le_refl _⟩ ⟨_, rfl, v⟩
theorem rnX7_image {E : Wd} {d : Nat} {a0 : Nat} {h : Hp} {Q : Int32 → Hp → Prop} (k : vcX7_image_0 E d a0 h Q) : OkI E YX7_image (d + 1) [.ref a0] h Q :=
  zz_body2 (r := 0) mX7_image (zc_a zc_n) (Nat.le_of_ble_eq_true rfl) (fun X C => zsX7_image_0 C a0 h k)
def vcX7_undo_0 (E : Wd) (d : Nat) (a0 : Nat) (h : Hp) (Q : Int32 → Hp → Prop) : Prop :=
  okI h a0 7 8 ∧ (¬ (fI h a0 8) = (0 : Int32) → okN h a0 7 5 ∧ okP h a0 7 4 ∧ ∀ h1, h1 = pF h a0 4 (va_rf (fN h a0 5)) → okA h1 a0 7 6 ∧ okA h1 a0 7 7 ∧ isO h1 (fA h1 a0 6) 0 ∧ OkV E YX0_copy d [.ref (fA h1 a0 6), .ref (fA h1 a0 7)] h1 (fun h2 => okN h2 a0 7 4 ∧ (∀ z, (fN h2 a0 4) = some z → Q 1 h2) ∧ ((fN h2 a0 4) = none → Q 0 h2))) ∧ ((fI h a0 8) = (0 : Int32) → Q ((-3)) h)
set_option maxRecDepth 100000 in
set_option maxHeartbeats 4000000 in
theorem zsX7_undo_0 {E : Wd} {X : Mx} {d : Nat} {Q : Int32 → Hp → Prop} (C : zz_C E X YX7_undo (d + 1) 0 0 (fun r h' => ∃ x : Int32, r = some (.int x) ∧ Q x h')) (a0 : Nat) (h : Hp) (v : vcX7_undo_0 E d a0 h Q) : GG E X 1 0 0 0 [some (.ref a0)] [] h := by
  refine zg_aload_n (q := 1) C dX7_undo_0 rfl rfl ?_
  refine zg_get (j := 8) (q := 4) C bX7 (by decide) lkX7_226 dX7_undo_1 rfl (okI.get v.1) ?_
  have v := v.2
  refine zg_if_ne (t := 10) (q := 7) C dX7_undo_4 (by decide) rfl (fun c => ?_) (fun c => ?_)
  · have v := v.1 c
    refine zg_aload_n (q := 11) C dX7_undo_10 rfl rfl ?_
    refine zg_aload_n (q := 12) C dX7_undo_11 rfl rfl ?_
    refine zg_get (j := 5) (q := 15) C bX7 (by decide) lkX7_230 dX7_undo_12 rfl (okN.get v.1) ?_
    have v := v.2
    refine zg_put (j := 4) (q := 18) C bX7 (by decide) lkX7_62 dX7_undo_15 rfl rfl v.1 (zn_o _).1 (zn_o _).2 ?_
    have v := v.2 _ rfl
    refine zg_aload_n (q := 19) C dX7_undo_18 rfl rfl ?_
    refine zg_get (j := 6) (q := 22) C bX7 (by decide) lkX7_16 dX7_undo_19 rfl (okA.get v.1) ?_
    have v := v.2
    refine zg_aload_n (q := 23) C dX7_undo_22 rfl rfl ?_
    refine zg_get (j := 7) (q := 26) C bX7 (by decide) lkX7_20 dX7_undo_23 rfl (okA.get v.1) ?_
    have v := v.2
    refine zg_cV1V (q := 29) C mX0_copy vX0_copy lmX7_233 rfl (bX0).1 v.1 (Nat.le_of_ble_eq_true rfl) ⟨Nat.le_refl _, Nat.le_refl _⟩ dX7_undo_26 rfl v.2 (fun h2 v => ?_)
    refine zg_aload_n (q := 30) C dX7_undo_29 rfl rfl ?_
    refine zg_get (j := 4) (q := 33) C bX7 (by decide) lkX7_62 dX7_undo_30 rfl (okN.get v.1) ?_
    have v := v.2
    refine zg_nonnull (t := 40) (q := 36) C dX7_undo_33 (by decide) rfl (fun z c => ?_) (fun c => ?_)
    · have v := v.1 z c
      refine zg_iconst (v := 1) (q := 41) C dX7_undo_40 (by decide) rfl ?_
      exact zg_iret C rfl dX7_undo_41 ⟨Nat.le_refl _, Nat.le_refl _⟩ ⟨_, rfl, v⟩
    · have v := v.2 c
      refine zg_iconst (v := 0) (q := 37) C dX7_undo_36 (by decide) rfl ?_
      refine zg_goto (t := 41) C dX7_undo_37 (by decide) ?_
      exact zg_iret C rfl dX7_undo_41 ⟨Nat.le_refl _, Nat.le_refl _⟩ ⟨_, rfl, v⟩
  · have v := v.2 c
    refine zg_bipush (v := (-3)) (q := 9) C dX7_undo_7 (by decide) rfl ?_
    exact zg_iret C rfl dX7_undo_9 ⟨Nat.le_refl _, Nat.le_refl _⟩ ⟨_, rfl, v⟩
theorem rnX7_undo {E : Wd} {d : Nat} {a0 : Nat} {h : Hp} {Q : Int32 → Hp → Prop} (k : vcX7_undo_0 E d a0 h Q) : OkI E YX7_undo (d + 1) [.ref a0] h Q :=
  zz_body2 (r := 0) mX7_undo (zc_a zc_n) (Nat.le_of_ble_eq_true rfl) (fun X C => zsX7_undo_0 C a0 h k)
def vcX7_count_0 (E : Wd) (d : Nat) (a0 : Nat) (x1 : Int32) (h : Hp) (Q : Int32 → Hp → Prop) : Prop :=
  (x1 = (0 : Int32) → okA h a0 7 6 ∧ isO h (fA h a0 6) 0 ∧ OkI E YX0_made d [.ref (fA h a0 6)] h (fun r2 h1 => Q r2 h1)) ∧ (¬ x1 = (0 : Int32) → (x1 = (1 : Int32) → okI h a0 7 1 ∧ Q (fI h a0 1) h) ∧ (¬ x1 = (1 : Int32) → (x1 = (2 : Int32) → okA h a0 7 6 ∧ isO h (fA h a0 6) 0 ∧ OkI E YX0_occurrences d [.ref (fA h a0 6)] h (fun r4 h3 => Q r4 h3)) ∧ (¬ x1 = (2 : Int32) → (x1 = (3 : Int32) → okA h a0 7 6 ∧ isO h (fA h a0 6) 0 ∧ OkI E YX0_different d [.ref (fA h a0 6)] h (fun r6 h5 => Q r6 h5)) ∧ (¬ x1 = (3 : Int32) → (x1 = (4 : Int32) → isO h a0 7 ∧ OkI E YX7_movesSinceCapture d [.ref a0] h (fun r8 h7 => Q r8 h7)) ∧ (¬ x1 = (4 : Int32) → Q ((-1)) h)))))
set_option maxRecDepth 100000 in
set_option maxHeartbeats 4000000 in
theorem zsX7_count_0 {E : Wd} {X : Mx} {d : Nat} {Q : Int32 → Hp → Prop} (C : zz_C E X YX7_count (d + 1) 0 0 (fun r h' => ∃ x : Int32, r = some (.int x) ∧ Q x h')) (a0 : Nat) (x1 : Int32) (h : Hp) (v : vcX7_count_0 E d a0 x1 h Q) : GG E X 2 0 0 0 [some (.ref a0), some (.int x1)] [] h := by
  refine zg_iload_n (q := 1) C dX7_count_0 rfl rfl ?_
  by_cases c0 : x1 = (0 : Int32)
  · have v := v.1 c0
    refine zg_tabC (t := 36) (off := 35) C dX7_count_1 c0 (by decide) (by decide) (by decide) (by decide) ?_
    refine zg_aload_n (q := 37) C dX7_count_36 rfl rfl ?_
    refine zg_get (j := 6) (q := 40) C bX7 (by decide) lkX7_16 dX7_count_37 rfl (okA.get v.1) ?_
    have v := v.2
    refine zg_cV0I (q := 43) C mX0_made vX0_made lmX7_180 rfl (bX0).1 v.1 (Nat.le_of_ble_eq_true rfl) ⟨Nat.le_refl _, Nat.le_refl _⟩ dX7_count_40 rfl v.2 (fun r2 h1 v => ?_)
    exact zg_iret C rfl dX7_count_43 ⟨Nat.le_refl _, Nat.le_refl _⟩ ⟨_, rfl, v⟩
  · have v := v.2 c0
    by_cases c1 : x1 = (1 : Int32)
    · have v := v.1 c1
      refine zg_tabC (t := 44) (off := 43) C dX7_count_1 c1 (by decide) (by decide) (by decide) (by decide) ?_
      refine zg_aload_n (q := 45) C dX7_count_44 rfl rfl ?_
      refine zg_get (j := 1) (q := 48) C bX7 (by decide) lkX7_27 dX7_count_45 rfl (okI.get v.1) ?_
      have v := v.2
      exact zg_iret C rfl dX7_count_48 ⟨Nat.le_refl _, Nat.le_refl _⟩ ⟨_, rfl, v⟩
    · have v := v.2 c1
      by_cases c2 : x1 = (2 : Int32)
      · have v := v.1 c2
        refine zg_tabC (t := 49) (off := 48) C dX7_count_1 c2 (by decide) (by decide) (by decide) (by decide) ?_
        refine zg_aload_n (q := 50) C dX7_count_49 rfl rfl ?_
        refine zg_get (j := 6) (q := 53) C bX7 (by decide) lkX7_16 dX7_count_50 rfl (okA.get v.1) ?_
        have v := v.2
        refine zg_cV0I (q := 56) C mX0_occurrences vX0_occurrences lmX7_186 rfl (bX0).1 v.1 (Nat.le_of_ble_eq_true rfl) ⟨Nat.le_refl _, Nat.le_refl _⟩ dX7_count_53 rfl v.2 (fun r4 h3 v => ?_)
        exact zg_iret C rfl dX7_count_56 ⟨Nat.le_refl _, Nat.le_refl _⟩ ⟨_, rfl, v⟩
      · have v := v.2 c2
        by_cases c3 : x1 = (3 : Int32)
        · have v := v.1 c3
          refine zg_tabC (t := 57) (off := 56) C dX7_count_1 c3 (by decide) (by decide) (by decide) (by decide) ?_
          refine zg_aload_n (q := 58) C dX7_count_57 rfl rfl ?_
          refine zg_get (j := 6) (q := 61) C bX7 (by decide) lkX7_16 dX7_count_58 rfl (okA.get v.1) ?_
          have v := v.2
          refine zg_cV0I (q := 64) C mX0_different vX0_different lmX7_237 rfl (bX0).1 v.1 (Nat.le_of_ble_eq_true rfl) ⟨Nat.le_refl _, Nat.le_refl _⟩ dX7_count_61 rfl v.2 (fun r6 h5 v => ?_)
          exact zg_iret C rfl dX7_count_64 ⟨Nat.le_refl _, Nat.le_refl _⟩ ⟨_, rfl, v⟩
        · have v := v.2 c3
          by_cases c4 : x1 = (4 : Int32)
          · have v := v.1 c4
            refine zg_tabC (t := 65) (off := 64) C dX7_count_1 c4 (by decide) (by decide) (by decide) (by decide) ?_
            refine zg_aload_n (q := 66) C dX7_count_65 rfl rfl ?_
            refine zg_cV0I (q := 69) C mX7_movesSinceCapture vX7_movesSinceCapture lmX7_240 rfl (bX7).1 v.1 (Nat.le_of_ble_eq_true rfl) ⟨Nat.le_refl _, Nat.le_refl _⟩ dX7_count_66 rfl v.2 (fun r8 h7 v => ?_)
            exact zg_iret C rfl dX7_count_69 ⟨Nat.le_refl _, Nat.le_refl _⟩ ⟨_, rfl, v⟩
          · have v := v.2 c4
            refine zg_tabD (t := 70) (cnt := 5) C dX7_count_1 (fun j hj => by match j, hj with | 0, _ => exact c0 | 1, _ => exact c1 | 2, _ => exact c2 | 3, _ => exact c3 | 4, _ => exact c4) rfl (by decide) ?_
            refine zg_iconst (v := (-1)) (q := 71) C dX7_count_70 (by decide) rfl ?_
            exact zg_iret C rfl dX7_count_71 ⟨Nat.le_refl _, Nat.le_refl _⟩ ⟨_, rfl, v⟩
theorem rnX7_count {E : Wd} {d : Nat} {a0 : Nat} {x1 : Int32} {h : Hp} {Q : Int32 → Hp → Prop} (k : vcX7_count_0 E d a0 x1 h Q) : OkI E YX7_count (d + 1) [.ref a0, .int x1] h Q :=
  zz_body2 (r := 0) mX7_count (zc_a (zc_i zc_n)) (Nat.le_of_ble_eq_true rfl) (fun X C => zsX7_count_0 C a0 x1 h k)
def vcX7_isByte_0 (E : Wd) (d : Nat) (x0 : Int32) (h : Hp) (Q : Int32 → Hp → Prop) : Prop :=
  (x0 < (0 : Int32) → mB 0 ∧ Q 0 h) ∧ (¬ x0 < (0 : Int32) → ((127 : Int32) < x0 → mB 0 ∧ Q 0 h) ∧ (¬ (127 : Int32) < x0 → mB 1 ∧ Q 1 h))
set_option maxRecDepth 100000 in
set_option maxHeartbeats 4000000 in
theorem zsX7_isByte_0 {E : Wd} {X : Mx} {d : Nat} {Q : Int32 → Hp → Prop} (C : zz_C E X YX7_isByte d 0 0 (fun r h' => ∃ x : Int32, r = some (.int x) ∧ Q x h')) (x0 : Int32) (h : Hp) (v : vcX7_isByte_0 E d x0 h Q) : GG E X 1 0 0 0 [some (.int x0)] [] h := by
  refine zg_iload_n (q := 1) C dX7_isByte_0 rfl rfl ?_
  refine zg_if_lt (t := 14) (q := 4) C dX7_isByte_1 (by decide) rfl (fun c => ?_) (fun c => ?_)
  · have v := v.1 c
    refine zg_iconst (v := 0) (q := 15) C dX7_isByte_14 (by decide) rfl ?_
    exact zg_zret C rfl dX7_isByte_15 ⟨Nat.le_refl _, Nat.le_refl _⟩ v.1 ⟨_, rfl, v.2⟩
  · have v := v.2 c
    refine zg_iload_n (q := 5) C dX7_isByte_4 rfl rfl ?_
    refine zg_bipush (v := 127) (q := 7) C dX7_isByte_5 (by decide) rfl ?_
    refine zg_icmp_gt (t := 14) (q := 10) C dX7_isByte_7 (by decide) rfl (fun c => ?_) (fun c => ?_)
    · have v := v.1 c
      refine zg_iconst (v := 0) (q := 15) C dX7_isByte_14 (by decide) rfl ?_
      exact zg_zret C rfl dX7_isByte_15 ⟨Nat.le_refl _, Nat.le_refl _⟩ v.1 ⟨_, rfl, v.2⟩
    · have v := v.2 c
      refine zg_iconst (v := 1) (q := 11) C dX7_isByte_10 (by decide) rfl ?_
      refine zg_goto (t := 15) C dX7_isByte_11 (by decide) ?_
      exact zg_zret C rfl dX7_isByte_15 ⟨Nat.le_refl _, Nat.le_refl _⟩ v.1 ⟨_, rfl, v.2⟩
theorem rnX7_isByte {E : Wd} {d : Nat} {x0 : Int32} {h : Hp} {Q : Int32 → Hp → Prop} (k : vcX7_isByte_0 E d x0 h Q) : OkI E YX7_isByte d [.int x0] h Q :=
  zz_body2 (r := 0) mX7_isByte (zc_i zc_n) (Nat.le_of_ble_eq_true rfl) (fun X C => zsX7_isByte_0 C x0 h k)
def vcX7_append_0 (E : Wd) (d : Nat) (a0 : Nat) (x1 : Int32) (h : Hp) (Q : Hp → Prop) : Prop :=
  okI h a0 7 1 ∧ ((fI h a0 1) < (0 : Int32) → Q h) ∧ (¬ (fI h a0 1) < (0 : Int32) → okI h a0 7 1 ∧ okA h a0 7 0 ∧ okL E h (fA h a0 0) 0 ∧ ((fI h a0 1) < (lA h (fA h a0 0)) → okA h a0 7 0 ∧ okI h a0 7 1 ∧ okR E h (fA h a0 0) 0 (fI h a0 1) ∧ ∀ h1, h1 = sA h (fA h a0 0) (fI h a0 1) x1 → okI h1 a0 7 1 ∧ okP h1 a0 7 1 ∧ ∀ h2, h2 = pF h1 a0 1 (.int ((fI h1 a0 1) + (1 : Int32))) → Q h2) ∧ (¬ (fI h a0 1) < (lA h (fA h a0 0)) → Q h))
set_option maxRecDepth 100000 in
set_option maxHeartbeats 4000000 in
theorem zsX7_append_0 {E : Wd} {X : Mx} {d : Nat} {Q : Hp → Prop} (C : zz_C E X YX7_append d 0 0 (fun r h' => r = none ∧ Q h')) (a0 : Nat) (x1 : Int32) (h : Hp) (v : vcX7_append_0 E d a0 x1 h Q) : GG E X 2 0 0 0 [some (.ref a0), some (.int x1)] [] h := by
  refine zg_aload_n (q := 1) C dX7_append_0 rfl rfl ?_
  refine zg_get (j := 1) (q := 4) C bX7 (by decide) lkX7_27 dX7_append_1 rfl (okI.get v.1) ?_
  have v := v.2
  refine zg_if_lt (t := 19) (q := 7) C dX7_append_4 (by decide) rfl (fun c => ?_) (fun c => ?_)
  · have v := v.1 c
    exact zg_vret C rfl dX7_append_19 ⟨Nat.le_refl _, Nat.le_refl _⟩ ⟨rfl, v⟩
  · have v := v.2 c
    refine zg_aload_n (q := 8) C dX7_append_7 rfl rfl ?_
    refine zg_get (j := 1) (q := 11) C bX7 (by decide) lkX7_27 dX7_append_8 rfl (okI.get v.1) ?_
    have v := v.2
    refine zg_aload_n (q := 12) C dX7_append_11 rfl rfl ?_
    refine zg_get (j := 0) (q := 15) C bX7 (by decide) lkX7_9 dX7_append_12 rfl (okA.get v.1) ?_
    have v := v.2
    refine zg_alen (t := 0) (q := 16) C (by decide) dX7_append_15 rfl v.1 ?_
    have v := v.2
    refine zg_icmp_lt (t := 20) (q := 19) C dX7_append_16 (by decide) rfl (fun c => ?_) (fun c => ?_)
    · have v := v.1 c
      refine zg_aload_n (q := 21) C dX7_append_20 rfl rfl ?_
      refine zg_get (j := 0) (q := 24) C bX7 (by decide) lkX7_9 dX7_append_21 rfl (okA.get v.1) ?_
      have v := v.2
      refine zg_aload_n (q := 25) C dX7_append_24 rfl rfl ?_
      refine zg_get (j := 1) (q := 28) C bX7 (by decide) lkX7_27 dX7_append_25 rfl (okI.get v.1) ?_
      have v := v.2
      refine zg_iload_n (q := 29) C dX7_append_28 rfl rfl ?_
      refine zg_iast (q := 30) C dX7_append_29 rfl v.1 ?_
      have v := v.2 _ rfl
      refine zg_aload_n (q := 31) C dX7_append_30 rfl rfl ?_
      refine zg_dup (q := 32) C dX7_append_31 rfl rfl ?_
      refine zg_get (j := 1) (q := 35) C bX7 (by decide) lkX7_27 dX7_append_32 rfl (okI.get v.1) ?_
      have v := v.2
      refine zg_iconst (v := 1) (q := 36) C dX7_append_35 (by decide) rfl ?_
      refine zg_iadd (q := 37) C dX7_append_36 rfl ?_
      refine zg_put (j := 1) (q := 40) C bX7 (by decide) lkX7_27 dX7_append_37 rfl rfl v.1 rfl rfl ?_
      have v := v.2 _ rfl
      exact zg_vret C rfl dX7_append_40 ⟨Nat.le_refl _, Nat.le_refl _⟩ ⟨rfl, v⟩
    · have v := v.2 c
      exact zg_vret C rfl dX7_append_19 ⟨Nat.le_refl _, Nat.le_refl _⟩ ⟨rfl, v⟩
theorem rnX7_append {E : Wd} {d : Nat} {a0 : Nat} {x1 : Int32} {h : Hp} {Q : Hp → Prop} (k : vcX7_append_0 E d a0 x1 h Q) : OkV E YX7_append d [.ref a0, .int x1] h Q :=
  zz_body2 (r := 0) mX7_append (zc_a (zc_i zc_n)) (Nat.le_of_ble_eq_true rfl) (fun X C => zsX7_append_0 C a0 x1 h k)
def vcX7_freeTable_18 (E : Wd) (d : Nat) (mc ms : Nat) (kc nc : Nat) (a0 : Nat) (h : Hp) (Q : Option Nat → Hp → Prop) : Prop :=
  (kc ≤ mc ∧ nc ≤ ms) ∧ okN h a0 7 5 ∧ okN h a0 7 2 ∧ ((fN h a0 5) = (fN h a0 2) → okN h a0 7 3 ∧ (∀ z, (fN h a0 3) = some z → okN h a0 7 3 ∧ Q (fN h a0 3) h) ∧ ((fN h a0 3) = none → (kc + 1 ≤ mc ∧ nc + 14 ≤ ms) ∧ ∀ h1, h1 = nO h 6 [.null, .null, .null, .null, .null, .null, .null, .null, .null, .null, .null, .int 0, .int 0, .int 0] → ∃ c4 s5, (kc + 1 + c4 ≤ mc ∧ nc + 14 + s5 ≤ ms) ∧ OkW E YX6_init d c4 s5 [.ref (h.1)] h1 (fun h3 => okP h3 a0 7 3 ∧ ∀ h7, h7 = pF h3 a0 3 (.ref (h.1)) → okN h7 a0 7 3 ∧ Q (fN h7 a0 3) h7))) ∧ (¬ (fN h a0 5) = (fN h a0 2) → okN h a0 7 2 ∧ Q (fN h a0 2) h)
def vcX7_freeTable_0 (E : Wd) (d : Nat) (mc ms : Nat) (a0 : Nat) (h : Hp) (Q : Option Nat → Hp → Prop) : Prop :=
  okN h a0 7 2 ∧ (∀ z, (fN h a0 2) = some z → vcX7_freeTable_18 E d mc ms 0 0 a0 h Q) ∧ ((fN h a0 2) = none → (1 ≤ mc ∧ 14 ≤ ms) ∧ ∀ h1, h1 = nO h 6 [.null, .null, .null, .null, .null, .null, .null, .null, .null, .null, .null, .int 0, .int 0, .int 0] → ∃ c4 s5, (1 + c4 ≤ mc ∧ 14 + s5 ≤ ms) ∧ OkW E YX6_init d c4 s5 [.ref (h.1)] h1 (fun h3 => okP h3 a0 7 2 ∧ ∀ h7, h7 = pF h3 a0 2 (.ref (h.1)) → vcX7_freeTable_18 E d mc ms ((1 + c4)) ((14 + s5)) a0 h7 Q))
set_option maxRecDepth 100000 in
set_option maxHeartbeats 4000000 in
theorem zsX7_freeTable_18 {E : Wd} {X : Mx} {d mc ms : Nat} {Q : Option Nat → Hp → Prop} (C : zz_C E X YX7_freeTable (d + 1) mc ms (fun r h' => ∃ x : Option Nat, r = some (va_rf x) ∧ Q x h')) (kc nc : Nat) (a0 : Nat) (h : Hp) (v : vcX7_freeTable_18 E d mc ms kc nc a0 h Q) : GG E X 1 kc nc 18 [some (.ref a0)] [] h := by
  have hc := v.1
  have v := v.2
  refine zg_aload_n (q := 19) C dX7_freeTable_18 rfl rfl ?_
  refine zg_get (j := 5) (q := 22) C bX7 (by decide) lkX7_230 dX7_freeTable_19 rfl (okN.get v.1) ?_
  have v := v.2
  refine zg_aload_n (q := 23) C dX7_freeTable_22 rfl rfl ?_
  refine zg_get (j := 2) (q := 26) C bX7 (by decide) lkX7_243 dX7_freeTable_23 rfl (okN.get v.1) ?_
  have v := v.2
  refine zg_acmp_eq (t := 34) (q := 29) C dX7_freeTable_26 (by decide) rfl (fun c => ?_) (fun c => ?_)
  · have v := v.1 c
    refine zg_aload_n (q := 35) C dX7_freeTable_34 rfl rfl ?_
    refine zg_get (j := 3) (q := 38) C bX7 (by decide) lkX7_247 dX7_freeTable_35 rfl (okN.get v.1) ?_
    have v := v.2
    refine zg_nonnull (t := 52) (q := 41) C dX7_freeTable_38 (by decide) rfl (fun z c => ?_) (fun c => ?_)
    · have v := v.1 z c
      refine zg_aload_n (q := 53) C dX7_freeTable_52 rfl rfl ?_
      refine zg_get (j := 3) (q := 56) C bX7 (by decide) lkX7_247 dX7_freeTable_53 rfl (okN.get v.1) ?_
      have v := v.2
      exact zg_aret (r := _) C rfl dX7_freeTable_56 hc ⟨_, rfl, v⟩
    · have v := v.2 c
      refine zg_aload_n (q := 42) C dX7_freeTable_41 rfl rfl ?_
      refine zg_new (q := 45) (fs := [.null, .null, .null, .null, .null, .null, .null, .null, .null, .null, .null, .int 0, .int 0, .int 0]) C bX6 nwX7_57 (by intro j hj; match j, hj with | 0, _ => rfl | 1, _ => rfl | 2, _ => rfl | 3, _ => rfl | 4, _ => rfl | 5, _ => rfl | 6, _ => rfl | 7, _ => rfl | 8, _ => rfl | 9, _ => rfl | 10, _ => rfl | 11, _ => rfl | 12, _ => rfl | 13, _ => rfl) dX7_freeTable_42 rfl v.1 ?_
      have c2 := v.1
      have v := v.2 _ rfl
      refine zg_dup (q := 46) C dX7_freeTable_45 rfl rfl ?_
      obtain ⟨c4, s5, g6, v⟩ := v
      refine zg_cI0WN (q := 49) C mX6_init iX6_init rfl lmX7_246 rfl (Nat.le_of_ble_eq_true rfl) g6 dX7_freeTable_46 rfl v (fun h3 v => ?_)
      refine zg_put (j := 3) (q := 52) C bX7 (by decide) lkX7_247 dX7_freeTable_49 rfl rfl v.1 rfl rfl ?_
      have v := v.2 _ rfl
      refine zg_aload_n (q := 53) C dX7_freeTable_52 rfl rfl ?_
      refine zg_get (j := 3) (q := 56) C bX7 (by decide) lkX7_247 dX7_freeTable_53 rfl (okN.get v.1) ?_
      have v := v.2
      exact zg_aret (r := _) C rfl dX7_freeTable_56 g6 ⟨_, rfl, v⟩
  · have v := v.2 c
    refine zg_aload_n (q := 30) C dX7_freeTable_29 rfl rfl ?_
    refine zg_get (j := 2) (q := 33) C bX7 (by decide) lkX7_243 dX7_freeTable_30 rfl (okN.get v.1) ?_
    have v := v.2
    exact zg_aret (r := _) C rfl dX7_freeTable_33 hc ⟨_, rfl, v⟩
set_option maxRecDepth 100000 in
set_option maxHeartbeats 4000000 in
theorem zsX7_freeTable_0 {E : Wd} {X : Mx} {d mc ms : Nat} {Q : Option Nat → Hp → Prop} (C : zz_C E X YX7_freeTable (d + 1) mc ms (fun r h' => ∃ x : Option Nat, r = some (va_rf x) ∧ Q x h')) (a0 : Nat) (h : Hp) (v : vcX7_freeTable_0 E d mc ms a0 h Q) : GG E X 1 0 0 0 [some (.ref a0)] [] h := by
  refine zg_aload_n (q := 1) C dX7_freeTable_0 rfl rfl ?_
  refine zg_get (j := 2) (q := 4) C bX7 (by decide) lkX7_243 dX7_freeTable_1 rfl (okN.get v.1) ?_
  have v := v.2
  refine zg_nonnull (t := 18) (q := 7) C dX7_freeTable_4 (by decide) rfl (fun z c => ?_) (fun c => ?_)
  · have v := v.1 z c
    exact zg_mask [true] (zsX7_freeTable_18 C _ _ _ _ v)
  · have v := v.2 c
    refine zg_aload_n (q := 8) C dX7_freeTable_7 rfl rfl ?_
    refine zg_new (q := 11) (fs := [.null, .null, .null, .null, .null, .null, .null, .null, .null, .null, .null, .int 0, .int 0, .int 0]) C bX6 nwX7_57 (by intro j hj; match j, hj with | 0, _ => rfl | 1, _ => rfl | 2, _ => rfl | 3, _ => rfl | 4, _ => rfl | 5, _ => rfl | 6, _ => rfl | 7, _ => rfl | 8, _ => rfl | 9, _ => rfl | 10, _ => rfl | 11, _ => rfl | 12, _ => rfl | 13, _ => rfl) dX7_freeTable_8 rfl v.1 ?_
    have c2 := v.1
    have v := v.2 _ rfl
    refine zg_dup (q := 12) C dX7_freeTable_11 rfl rfl ?_
    obtain ⟨c4, s5, g6, v⟩ := v
    refine zg_cI0WN (q := 15) C mX6_init iX6_init rfl lmX7_246 rfl (Nat.le_of_ble_eq_true rfl) g6 dX7_freeTable_12 rfl v (fun h3 v => ?_)
    refine zg_put (j := 2) (q := 18) C bX7 (by decide) lkX7_243 dX7_freeTable_15 rfl rfl v.1 rfl rfl ?_
    have v := v.2 _ rfl
    exact zg_mask [true] (zsX7_freeTable_18 C _ _ _ _ v)
theorem rnX7_freeTable {E : Wd} {d mc ms : Nat} {a0 : Nat} {h : Hp} {Q : Option Nat → Hp → Prop} (k : vcX7_freeTable_0 E d mc ms a0 h Q) : OkN E YX7_freeTable (d + 1) mc ms [.ref a0] h Q :=
  zz_body2 (r := 0) mX7_freeTable (zc_a zc_n) (Nat.le_of_ble_eq_true rfl) (fun X C => zsX7_freeTable_0 C a0 h k)
def vcX7_isPlaying_0 (E : Wd) (d : Nat) (a0 : Nat) (h : Hp) (Q : Int32 → Hp → Prop) : Prop :=
  okN h a0 7 4 ∧ ((fN h a0 4) = none → mB 0 ∧ Q 0 h) ∧ (∀ z, (fN h a0 4) = some z → okA h a0 7 6 ∧ isO h (fA h a0 6) 0 ∧ OkI E YX0_hasPosition d [.ref (fA h a0 6)] h (fun r2 h1 => (r2 = (0 : Int32) → mB 0 ∧ Q 0 h1) ∧ (¬ r2 = (0 : Int32) → mB 1 ∧ Q 1 h1)))
set_option maxRecDepth 100000 in
set_option maxHeartbeats 4000000 in
theorem zsX7_isPlaying_0 {E : Wd} {X : Mx} {d : Nat} {Q : Int32 → Hp → Prop} (C : zz_C E X YX7_isPlaying (d + 1) 0 0 (fun r h' => ∃ x : Int32, r = some (.int x) ∧ Q x h')) (a0 : Nat) (h : Hp) (v : vcX7_isPlaying_0 E d a0 h Q) : GG E X 1 0 0 0 [some (.ref a0)] [] h := by
  refine zg_aload_n (q := 1) C dX7_isPlaying_0 rfl rfl ?_
  refine zg_get (j := 4) (q := 4) C bX7 (by decide) lkX7_62 dX7_isPlaying_1 rfl (okN.get v.1) ?_
  have v := v.2
  refine zg_null (t := 21) (q := 7) C dX7_isPlaying_4 (by decide) rfl (fun c => ?_) (fun z c => ?_)
  · have v := v.1 c
    refine zg_iconst (v := 0) (q := 22) C dX7_isPlaying_21 (by decide) rfl ?_
    exact zg_zret C rfl dX7_isPlaying_22 ⟨Nat.le_refl _, Nat.le_refl _⟩ v.1 ⟨_, rfl, v.2⟩
  · have v := v.2 z c
    refine zg_aload_n (q := 8) C dX7_isPlaying_7 rfl rfl ?_
    refine zg_get (j := 6) (q := 11) C bX7 (by decide) lkX7_16 dX7_isPlaying_8 rfl (okA.get v.1) ?_
    have v := v.2
    refine zg_cV0I (q := 14) C mX0_hasPosition vX0_hasPosition lmX7_250 rfl (bX0).1 v.1 (Nat.le_of_ble_eq_true rfl) ⟨Nat.le_refl _, Nat.le_refl _⟩ dX7_isPlaying_11 rfl v.2 (fun r2 h1 v => ?_)
    refine zg_if_eq (t := 21) (q := 17) C dX7_isPlaying_14 (by decide) rfl (fun c => ?_) (fun c => ?_)
    · have v := v.1 c
      refine zg_iconst (v := 0) (q := 22) C dX7_isPlaying_21 (by decide) rfl ?_
      exact zg_zret C rfl dX7_isPlaying_22 ⟨Nat.le_refl _, Nat.le_refl _⟩ v.1 ⟨_, rfl, v.2⟩
    · have v := v.2 c
      refine zg_iconst (v := 1) (q := 18) C dX7_isPlaying_17 (by decide) rfl ?_
      refine zg_goto (t := 22) C dX7_isPlaying_18 (by decide) ?_
      exact zg_zret C rfl dX7_isPlaying_22 ⟨Nat.le_refl _, Nat.le_refl _⟩ v.1 ⟨_, rfl, v.2⟩
theorem rnX7_isPlaying {E : Wd} {d : Nat} {a0 : Nat} {h : Hp} {Q : Int32 → Hp → Prop} (k : vcX7_isPlaying_0 E d a0 h Q) : OkI E YX7_isPlaying (d + 1) [.ref a0] h Q :=
  zz_body2 (r := 0) mX7_isPlaying (zc_a zc_n) (Nat.le_of_ble_eq_true rfl) (fun X C => zsX7_isPlaying_0 C a0 h k)
def vcX7_manOnBoard_0 (E : Wd) (d : Nat) (a0 : Nat) (x1 : Int32) (x2 : Int32) (h : Hp) (Q : Int32 → Hp → Prop) : Prop :=
  okA h a0 7 4 ∧ okA h (fA h a0 4) 6 8 ∧ isO h (fA h (fA h a0 4) 8) 4 ∧ OkI E YX4_isMan d [.ref (fA h (fA h a0 4) 8), .int x1] h (fun r2 h1 => (¬ r2 = (0 : Int32) → isO h1 (fA h (fA h a0 4) 8) 4 ∧ OkI E YX4_squareOf d [.ref (fA h (fA h a0 4) 8), .int x2, .int x1] h1 (fun r4 h3 => okI h3 (fA h (fA h a0 4) 8) 4 2 ∧ (¬ r4 = (fI h3 (fA h (fA h a0 4) 8) 2) → Q r4 h3) ∧ (r4 = (fI h3 (fA h (fA h a0 4) 8) 2) → Q ((-5)) h3))) ∧ (r2 = (0 : Int32) → Q ((-1)) h1))
set_option maxRecDepth 100000 in
set_option maxHeartbeats 4000000 in
theorem zsX7_manOnBoard_0 {E : Wd} {X : Mx} {d : Nat} {Q : Int32 → Hp → Prop} (C : zz_C E X YX7_manOnBoard (d + 1) 0 0 (fun r h' => ∃ x : Int32, r = some (.int x) ∧ Q x h')) (a0 : Nat) (x1 : Int32) (x2 : Int32) (h : Hp) (v : vcX7_manOnBoard_0 E d a0 x1 x2 h Q) : GG E X 5 0 0 0 [some (.ref a0), some (.int x1), some (.int x2), none, none] [] h := by
  refine zg_aload_n (q := 1) C dX7_manOnBoard_0 rfl rfl ?_
  refine zg_get (j := 4) (q := 4) C bX7 (by decide) lkX7_62 dX7_manOnBoard_1 rfl (okA.get v.1) ?_
  have v := v.2
  refine zg_getN (j := 8) (q := 7) C bX6 (by decide) lkX7_69 dX7_manOnBoard_4 rfl (okA.get v.1) ?_
  have v := v.2
  refine zg_astore_n (q := 8) C dX7_manOnBoard_7 (by decide) rfl ?_
  refine zg_aload_n (q := 9) C dX7_manOnBoard_8 rfl rfl ?_
  refine zg_iload_n (q := 10) C dX7_manOnBoard_9 rfl rfl ?_
  refine zg_cV1I (q := 13) C mX4_isMan vX4_isMan lmX7_253 rfl (bX4).1 v.1 (Nat.le_of_ble_eq_true rfl) ⟨Nat.le_refl _, Nat.le_refl _⟩ dX7_manOnBoard_10 rfl v.2 (fun r2 h1 v => ?_)
  refine zg_if_ne (t := 18) (q := 16) C dX7_manOnBoard_13 (by decide) rfl (fun c => ?_) (fun c => ?_)
  · have v := v.1 c
    refine zg_aload_n (q := 19) C dX7_manOnBoard_18 rfl rfl ?_
    refine zg_iload_n (q := 20) C dX7_manOnBoard_19 rfl rfl ?_
    refine zg_iload_n (q := 21) C dX7_manOnBoard_20 rfl rfl ?_
    refine zg_cV2I (q := 24) C mX4_squareOf vX4_squareOf lmX7_174 rfl (bX4).1 v.1 (Nat.le_of_ble_eq_true rfl) ⟨Nat.le_refl _, Nat.le_refl _⟩ dX7_manOnBoard_21 rfl v.2 (fun r4 h3 v => ?_)
    refine zg_istore (q := 26) C dX7_manOnBoard_24 (by decide) rfl ?_
    refine zg_iload (q := 28) C dX7_manOnBoard_26 rfl rfl ?_
    refine zg_aload_n (q := 29) C dX7_manOnBoard_28 rfl rfl ?_
    refine zg_getN (j := 2) (q := 32) C bX4 (by decide) lkX7_256 dX7_manOnBoard_29 rfl (okI.get v.1) ?_
    have v := v.2
    refine zg_icmp_ne (t := 40) (q := 35) C dX7_manOnBoard_32 (by decide) rfl (fun c => ?_) (fun c => ?_)
    · have v := v.1 c
      refine zg_iload (q := 42) C dX7_manOnBoard_40 rfl rfl ?_
      exact zg_iret C rfl dX7_manOnBoard_42 ⟨Nat.le_refl _, Nat.le_refl _⟩ ⟨_, rfl, v⟩
    · have v := v.2 c
      refine zg_bipush (v := (-5)) (q := 37) C dX7_manOnBoard_35 (by decide) rfl ?_
      refine zg_goto (t := 42) C dX7_manOnBoard_37 (by decide) ?_
      exact zg_iret C rfl dX7_manOnBoard_42 ⟨Nat.le_refl _, Nat.le_refl _⟩ ⟨_, rfl, v⟩
  · have v := v.2 c
    refine zg_iconst (v := (-1)) (q := 17) C dX7_manOnBoard_16 (by decide) rfl ?_
    exact zg_iret C rfl dX7_manOnBoard_17 ⟨Nat.le_refl _, Nat.le_refl _⟩ ⟨_, rfl, v⟩
theorem rnX7_manOnBoard {E : Wd} {d : Nat} {a0 : Nat} {x1 : Int32} {x2 : Int32} {h : Hp} {Q : Int32 → Hp → Prop} (k : vcX7_manOnBoard_0 E d a0 x1 x2 h Q) : OkI E YX7_manOnBoard (d + 1) [.ref a0, .int x1, .int x2] h Q :=
  zz_body2 (r := 2) mX7_manOnBoard (zc_a (zc_i (zc_i zc_n))) (Nat.le_of_ble_eq_true rfl) (fun X C => zsX7_manOnBoard_0 C a0 x1 x2 h k)
def vcX7_capturedMan_0 (E : Wd) (d : Nat) (a0 : Nat) (x1 : Int32) (x2 : Int32) (h : Hp) (Q : Int32 → Hp → Prop) : Prop :=
  okA h a0 7 4 ∧ okA h (fA h a0 4) 6 8 ∧ isO h (fA h (fA h a0 4) 8) 4 ∧ OkI E YX4_changedMan d [.ref (fA h (fA h a0 4) 8), .int x1, .int x2, .int ((1 : Int32) - (x1 &&& (1 : Int32)))] h (fun r2 h1 => ((0 : Int32) ≤ r2 → Q r2 h1) ∧ (¬ (0 : Int32) ≤ r2 → Q ((-5)) h1))
set_option maxRecDepth 100000 in
set_option maxHeartbeats 4000000 in
theorem zsX7_capturedMan_0 {E : Wd} {X : Mx} {d : Nat} {Q : Int32 → Hp → Prop} (C : zz_C E X YX7_capturedMan (d + 1) 0 0 (fun r h' => ∃ x : Int32, r = some (.int x) ∧ Q x h')) (a0 : Nat) (x1 : Int32) (x2 : Int32) (h : Hp) (v : vcX7_capturedMan_0 E d a0 x1 x2 h Q) : GG E X 4 0 0 0 [some (.ref a0), some (.int x1), some (.int x2), none] [] h := by
  refine zg_aload_n (q := 1) C dX7_capturedMan_0 rfl rfl ?_
  refine zg_get (j := 4) (q := 4) C bX7 (by decide) lkX7_62 dX7_capturedMan_1 rfl (okA.get v.1) ?_
  have v := v.2
  refine zg_getN (j := 8) (q := 7) C bX6 (by decide) lkX7_69 dX7_capturedMan_4 rfl (okA.get v.1) ?_
  have v := v.2
  refine zg_iload_n (q := 8) C dX7_capturedMan_7 rfl rfl ?_
  refine zg_iload_n (q := 9) C dX7_capturedMan_8 rfl rfl ?_
  refine zg_iconst (v := 1) (q := 10) C dX7_capturedMan_9 (by decide) rfl ?_
  refine zg_iload_n (q := 11) C dX7_capturedMan_10 rfl rfl ?_
  refine zg_iconst (v := 1) (q := 12) C dX7_capturedMan_11 (by decide) rfl ?_
  refine zg_iand (q := 13) C dX7_capturedMan_12 rfl ?_
  refine zg_isub (q := 14) C dX7_capturedMan_13 rfl ?_
  refine zg_cV3I (q := 17) C mX4_changedMan vX4_changedMan lmX7_170 rfl (bX4).1 v.1 (Nat.le_of_ble_eq_true rfl) ⟨Nat.le_refl _, Nat.le_refl _⟩ dX7_capturedMan_14 rfl v.2 (fun r2 h1 v => ?_)
  refine zg_istore_n (q := 18) C dX7_capturedMan_17 (by decide) rfl ?_
  refine zg_iload_n (q := 19) C dX7_capturedMan_18 rfl rfl ?_
  refine zg_if_ge (t := 27) (q := 22) C dX7_capturedMan_19 (by decide) rfl (fun c => ?_) (fun c => ?_)
  · have v := v.1 c
    refine zg_iload_n (q := 28) C dX7_capturedMan_27 rfl rfl ?_
    exact zg_iret C rfl dX7_capturedMan_28 ⟨Nat.le_refl _, Nat.le_refl _⟩ ⟨_, rfl, v⟩
  · have v := v.2 c
    refine zg_bipush (v := (-5)) (q := 24) C dX7_capturedMan_22 (by decide) rfl ?_
    refine zg_goto (t := 28) C dX7_capturedMan_24 (by decide) ?_
    exact zg_iret C rfl dX7_capturedMan_28 ⟨Nat.le_refl _, Nat.le_refl _⟩ ⟨_, rfl, v⟩
theorem rnX7_capturedMan {E : Wd} {d : Nat} {a0 : Nat} {x1 : Int32} {x2 : Int32} {h : Hp} {Q : Int32 → Hp → Prop} (k : vcX7_capturedMan_0 E d a0 x1 x2 h Q) : OkI E YX7_capturedMan (d + 1) [.ref a0, .int x1, .int x2] h Q :=
  zz_body2 (r := 1) mX7_capturedMan (zc_a (zc_i (zc_i zc_n))) (Nat.le_of_ble_eq_true rfl) (fun X C => zsX7_capturedMan_0 C a0 x1 x2 h k)
def vcX7_movesSinceCapture_0 (E : Wd) (d : Nat) (K19 : Nat → Int32 → Int32 → Hp → Prop) (a0 : Nat) (h : Hp) (Q : Int32 → Hp → Prop) : Prop :=
  isO h a0 7 ∧ OkI E YX7_isPlaying d [.ref a0] h (fun r2 h1 => (¬ r2 = (0 : Int32) → okA h1 a0 7 6 ∧ isO h1 (fA h1 a0 6) 0 ∧ OkI E YX0_made d [.ref (fA h1 a0 6)] h1 (fun r4 h3 => K19 a0 r4 1 h3)) ∧ (r2 = (0 : Int32) → Q 0 h1))
def vcX7_movesSinceCapture_19 (E : Wd) (d : Nat) (K19 : Nat → Int32 → Int32 → Hp → Prop) (a0 : Nat) (x1 : Int32) (x2 : Int32) (h : Hp) (Q : Int32 → Hp → Prop) : Prop :=
  (x1 < x2 → Q x1 h) ∧ (¬ x1 < x2 → okA h a0 7 4 ∧ okA h a0 7 6 ∧ isO h (fA h a0 6) 0 ∧ OkI E YX0_at d [.ref (fA h a0 6), .int (x1 - x2)] h (fun r2 h1 => okA h1 a0 7 6 ∧ isO h1 (fA h1 a0 6) 0 ∧ OkI E YX0_at d [.ref (fA h1 a0 6), .int ((x1 - x2) + (1 : Int32))] h1 (fun r4 h3 => isO h3 (fA h a0 4) 6 ∧ OkI E YX6_captures d [.ref (fA h a0 4), .int r2, .int r4] h3 (fun r6 h5 => (r6 = (0 : Int32) → K19 a0 x1 (x2 + 1) h5) ∧ (¬ r6 = (0 : Int32) → Q (x2 - (1 : Int32)) h5)))))
def zkX7_movesSinceCapture_19 (E : Wd) (X : Mx) : Nat → Int32 → Int32 → Hp → Prop := fun a0 x1 x2 h => GG E X 3 0 0 19 [some (.ref a0), some (.int x1), some (.int x2)] [] h
set_option maxRecDepth 100000 in
set_option maxHeartbeats 4000000 in
theorem zsX7_movesSinceCapture_0 {E : Wd} {X : Mx} {d : Nat} {Q : Int32 → Hp → Prop} (C : zz_C E X YX7_movesSinceCapture (d + 1) 0 0 (fun r h' => ∃ x : Int32, r = some (.int x) ∧ Q x h')) (a0 : Nat) (h : Hp) (v : vcX7_movesSinceCapture_0 E d (zkX7_movesSinceCapture_19 E X) a0 h Q) : GG E X 3 0 0 0 [some (.ref a0), none, none] [] h := by
  refine zg_aload_n (q := 1) C dX7_movesSinceCapture_0 rfl rfl ?_
  refine zg_cV0I (q := 4) C mX7_isPlaying vX7_isPlaying lmX7_132 rfl (bX7).1 v.1 (Nat.le_of_ble_eq_true rfl) ⟨Nat.le_refl _, Nat.le_refl _⟩ dX7_movesSinceCapture_1 rfl v.2 (fun r2 h1 v => ?_)
  refine zg_if_ne (t := 9) (q := 7) C dX7_movesSinceCapture_4 (by decide) rfl (fun c => ?_) (fun c => ?_)
  · have v := v.1 c
    refine zg_aload_n (q := 10) C dX7_movesSinceCapture_9 rfl rfl ?_
    refine zg_get (j := 6) (q := 13) C bX7 (by decide) lkX7_16 dX7_movesSinceCapture_10 rfl (okA.get v.1) ?_
    have v := v.2
    refine zg_cV0I (q := 16) C mX0_made vX0_made lmX7_180 rfl (bX0).1 v.1 (Nat.le_of_ble_eq_true rfl) ⟨Nat.le_refl _, Nat.le_refl _⟩ dX7_movesSinceCapture_13 rfl v.2 (fun r4 h3 v => ?_)
    refine zg_istore_n (q := 17) C dX7_movesSinceCapture_16 (by decide) rfl ?_
    refine zg_iconst (v := 1) (q := 18) C dX7_movesSinceCapture_17 (by decide) rfl ?_
    refine zg_istore_n (q := 19) C dX7_movesSinceCapture_18 (by decide) rfl ?_
    exact zg_mask [true, true, true] v
  · have v := v.2 c
    refine zg_iconst (v := 0) (q := 8) C dX7_movesSinceCapture_7 (by decide) rfl ?_
    exact zg_iret C rfl dX7_movesSinceCapture_8 ⟨Nat.le_refl _, Nat.le_refl _⟩ ⟨_, rfl, v⟩
set_option maxRecDepth 100000 in
set_option maxHeartbeats 4000000 in
theorem zsX7_movesSinceCapture_19 {E : Wd} {X : Mx} {d : Nat} {Q : Int32 → Hp → Prop} (C : zz_C E X YX7_movesSinceCapture (d + 1) 0 0 (fun r h' => ∃ x : Int32, r = some (.int x) ∧ Q x h')) (a0 : Nat) (x1 : Int32) (x2 : Int32) (h : Hp) (v : vcX7_movesSinceCapture_19 E d (zkX7_movesSinceCapture_19 E X) a0 x1 x2 h Q) : GG E X 3 0 0 19 [some (.ref a0), some (.int x1), some (.int x2)] [] h := by
  refine zg_iload_n (q := 20) C dX7_movesSinceCapture_19 rfl rfl ?_
  refine zg_iload_n (q := 21) C dX7_movesSinceCapture_20 rfl rfl ?_
  refine zg_icmp_gt (t := 66) (q := 24) C dX7_movesSinceCapture_21 (by decide) rfl (fun c => ?_) (fun c => ?_)
  · have v := v.1 c
    refine zg_iload_n (q := 67) C dX7_movesSinceCapture_66 rfl rfl ?_
    exact zg_iret C rfl dX7_movesSinceCapture_67 ⟨Nat.le_refl _, Nat.le_refl _⟩ ⟨_, rfl, v⟩
  · have v := v.2 c
    refine zg_aload_n (q := 25) C dX7_movesSinceCapture_24 rfl rfl ?_
    refine zg_get (j := 4) (q := 28) C bX7 (by decide) lkX7_62 dX7_movesSinceCapture_25 rfl (okA.get v.1) ?_
    have v := v.2
    refine zg_aload_n (q := 29) C dX7_movesSinceCapture_28 rfl rfl ?_
    refine zg_get (j := 6) (q := 32) C bX7 (by decide) lkX7_16 dX7_movesSinceCapture_29 rfl (okA.get v.1) ?_
    have v := v.2
    refine zg_iload_n (q := 33) C dX7_movesSinceCapture_32 rfl rfl ?_
    refine zg_iload_n (q := 34) C dX7_movesSinceCapture_33 rfl rfl ?_
    refine zg_isub (q := 35) C dX7_movesSinceCapture_34 rfl ?_
    refine zg_cV1I (q := 38) C mX0_at vX0_at lmX7_259 rfl (bX0).1 v.1 (Nat.le_of_ble_eq_true rfl) ⟨Nat.le_refl _, Nat.le_refl _⟩ dX7_movesSinceCapture_35 rfl v.2 (fun r2 h1 v => ?_)
    refine zg_aload_n (q := 39) C dX7_movesSinceCapture_38 rfl rfl ?_
    refine zg_get (j := 6) (q := 42) C bX7 (by decide) lkX7_16 dX7_movesSinceCapture_39 rfl (okA.get v.1) ?_
    have v := v.2
    refine zg_iload_n (q := 43) C dX7_movesSinceCapture_42 rfl rfl ?_
    refine zg_iload_n (q := 44) C dX7_movesSinceCapture_43 rfl rfl ?_
    refine zg_isub (q := 45) C dX7_movesSinceCapture_44 rfl ?_
    refine zg_iconst (v := 1) (q := 46) C dX7_movesSinceCapture_45 (by decide) rfl ?_
    refine zg_iadd (q := 47) C dX7_movesSinceCapture_46 rfl ?_
    refine zg_cV1I (q := 50) C mX0_at vX0_at lmX7_259 rfl (bX0).1 v.1 (Nat.le_of_ble_eq_true rfl) ⟨Nat.le_refl _, Nat.le_refl _⟩ dX7_movesSinceCapture_47 rfl v.2 (fun r4 h3 v => ?_)
    refine zg_cV2I (q := 53) C mX6_captures vX6_captures lmX7_261 rfl (bX6).1 v.1 (Nat.le_of_ble_eq_true rfl) ⟨Nat.le_refl _, Nat.le_refl _⟩ dX7_movesSinceCapture_50 rfl v.2 (fun r6 h5 v => ?_)
    refine zg_if_eq (t := 60) (q := 56) C dX7_movesSinceCapture_53 (by decide) rfl (fun c => ?_) (fun c => ?_)
    · have v := v.1 c
      refine zg_iinc (v := 1) (q := 63) C dX7_movesSinceCapture_60 rfl (by decide) (by decide) rfl ?_
      refine zg_goto (t := 19) C dX7_movesSinceCapture_63 (by decide) ?_
      exact zg_mask [true, true, true] v
    · have v := v.2 c
      refine zg_iload_n (q := 57) C dX7_movesSinceCapture_56 rfl rfl ?_
      refine zg_iconst (v := 1) (q := 58) C dX7_movesSinceCapture_57 (by decide) rfl ?_
      refine zg_isub (q := 59) C dX7_movesSinceCapture_58 rfl ?_
      exact zg_iret C rfl dX7_movesSinceCapture_59 ⟨Nat.le_refl _, Nat.le_refl _⟩ ⟨_, rfl, v⟩
theorem rnX7_movesSinceCapture {E : Wd} {d : Nat} {a0 : Nat} {h : Hp} {Q : Int32 → Hp → Prop} (k : ∀ (K19 : Nat → Int32 → Int32 → Hp → Prop),(∀ (a0 : Nat) (x1 : Int32) (x2 : Int32) h, vcX7_movesSinceCapture_19 E d K19 a0 x1 x2 h Q → K19 a0 x1 x2 h) → vcX7_movesSinceCapture_0 E d K19 a0 h Q) : OkI E YX7_movesSinceCapture (d + 1) [.ref a0] h Q :=
  zz_body2 (r := 2) mX7_movesSinceCapture (zc_a zc_n) (Nat.le_of_ble_eq_true rfl) (fun X C => zsX7_movesSinceCapture_0 C a0 h (k (zkX7_movesSinceCapture_19 E X) (fun a0 x1 x2 h v => zsX7_movesSinceCapture_19 C a0 x1 x2 h v)))
