def vcX1_init_0 (E : Wd) (d : Nat) (mc ms : Nat) (a0 : Nat) (a1 : Nat) (h : Hp) (Q : Hp → Prop) : Prop :=
  (1 ≤ mc ∧ 3 ≤ ms) ∧ ∀ h1, h1 = nA E h 0 3 → okP h1 a0 1 2 ∧ ∀ h3, h3 = pF h1 a0 2 (.ref (h.1)) → okP h3 a0 1 0 ∧ ∀ h4, h4 = pF h3 a0 0 (.ref a1) → (2 ≤ mc ∧ 5 ≤ ms) ∧ ∀ h5, h5 = nO h4 2 [.null, .null] → ∃ c8 s9, (2 + c8 ≤ mc ∧ 5 + s9 ≤ ms) ∧ OkW E YX2_init d c8 s9 [.ref (h4.1), .ref a1] h5 (fun h7 => okP h7 a0 1 1 ∧ ∀ h11, h11 = pF h7 a0 1 (.ref (h4.1)) → Q h11)
set_option maxRecDepth 100000 in
set_option maxHeartbeats 4000000 in
theorem zsX1_init_0 {E : Wd} {X : Mx} {d mc ms : Nat} {Q : Hp → Prop} (C : zz_C E X YX1_init (d + 1) mc ms (fun r h' => r = none ∧ Q h')) (a0 : Nat) (a1 : Nat) (h : Hp) (v : vcX1_init_0 E d mc ms a0 a1 h Q) : GG E X 2 0 0 0 [some (.ref a0), some (.ref a1)] [] h := by
  refine zg_aload_n (q := 1) C dX1_init_0 rfl rfl ?_
  refine zg_objInit (q := 4) C oiX1 rfl (Nat.le_add_left _ _) (Nat.le_of_ble_eq_true rfl) dX1_init_1 rfl ?_
  refine zg_aload_n (q := 5) C dX1_init_4 rfl rfl ?_
  refine zg_iconst (v := 3) (q := 6) C dX1_init_5 (by decide) rfl ?_
  refine zg_newI (m := 3) (q := 8) C ar0 dX1_init_6 rfl (by decide) (by decide) (by decide) v.1 ?_
  have c2 := v.1
  have v := v.2 _ rfl
  refine zg_putF (j := 2) (q := 11) C bX1 (by decide) lkX1_9 dX1_init_8 rfl rfl rfl rfl v.1 rfl rfl ?_
  have v := v.2 _ rfl
  refine zg_aload_n (q := 12) C dX1_init_11 rfl rfl ?_
  refine zg_aload_n (q := 13) C dX1_init_12 rfl rfl ?_
  refine zg_putF (j := 0) (q := 16) C bX1 (by decide) lkX1_15 dX1_init_13 rfl rfl rfl rfl v.1 rfl rfl ?_
  have v := v.2 _ rfl
  refine zg_aload_n (q := 17) C dX1_init_16 rfl rfl ?_
  refine zg_new (q := 20) (fs := [.null, .null]) C bX2 nwX1_19 (by intro j hj; match j, hj with | 0, _ => rfl | 1, _ => rfl) dX1_init_17 rfl v.1 ?_
  have c6 := v.1
  have v := v.2 _ rfl
  refine zg_dup (q := 21) C dX1_init_20 rfl rfl ?_
  refine zg_aload_n (q := 22) C dX1_init_21 rfl rfl ?_
  obtain ⟨c8, s9, g10, v⟩ := v
  refine zg_cI1W (q := 25) C mX2_init iX2_init rfl lmX1_21 rfl (Nat.le_of_ble_eq_true rfl) g10 dX1_init_22 rfl v (fun h7 v => ?_)
  refine zg_putF (j := 1) (q := 28) C bX1 (by decide) lkX1_24 dX1_init_25 rfl rfl rfl rfl v.1 rfl rfl ?_
  have v := v.2 _ rfl
  exact zg_vret C rfl dX1_init_28 g10 ⟨rfl, v⟩
theorem rnX1_init {E : Wd} {d mc ms : Nat} {a0 : Nat} {a1 : Nat} {h : Hp} {Q : Hp → Prop} (k : vcX1_init_0 E d mc ms a0 a1 h Q) : OkW E YX1_init (d + 1) mc ms [.ref a0, .ref a1] h Q :=
  zz_body2 (r := 0) mX1_init (zc_a (zc_a zc_n)) (Nat.le_of_ble_eq_true rfl) (fun X C => zsX1_init_0 C a0 a1 h k)
def vcX1_read_0 (E : Wd) (d : Nat) (K14 : Nat → Int32 → Int32 → Hp → Prop) (a0 : Nat) (x1 : Int32) (h : Hp) (Q : Hp → Prop) : Prop :=
  okP h a0 1 3 ∧ ∀ h1, h1 = pF h a0 3 (.int (x1 &&& (1 : Int32))) → okP h1 a0 1 4 ∧ ∀ h2, h2 = pF h1 a0 4 (.int 0) → K14 a0 x1 0 h2
def vcX1_read_14 (E : Wd) (d : Nat) (K14 : Nat → Int32 → Int32 → Hp → Prop) (a0 : Nat) (x1 : Int32) (x2 : Int32) (h : Hp) (Q : Hp → Prop) : Prop :=
  okA h a0 1 2 ∧ okL E h (fA h a0 2) 0 ∧ ((lA h (fA h a0 2)) ≤ x2 → Q h) ∧ (¬ (lA h (fA h a0 2)) ≤ x2 → okA h a0 1 0 ∧ isO h (fA h a0 0) 4 ∧ OkI E YX4_squareOf d [.ref (fA h a0 0), .int x1, .int x2] h (fun r2 h1 => okA h1 a0 1 2 ∧ okR E h1 (fA h1 a0 2) 0 x2 ∧ ∀ h3, h3 = sA h1 (fA h1 a0 2) x2 r2 → okA h3 a0 1 0 ∧ okI h3 (fA h3 a0 0) 4 2 ∧ ((fI h3 (fA h3 a0 0) 2) ≤ r2 → K14 a0 x1 (x2 + 1) h3) ∧ (¬ (fI h3 (fA h3 a0 0) 2) ≤ r2 → okI h3 a0 1 4 ∧ okP h3 a0 1 4 ∧ ∀ h4, h4 = pF h3 a0 4 (.int ((fI h3 a0 4) ||| ((1 : Int32) <<< (r2 &&& 31)))) → K14 a0 x1 (x2 + 1) h4)))
def zkX1_read_14 (E : Wd) (X : Mx) : Nat → Int32 → Int32 → Hp → Prop := fun a0 x1 x2 h => GG E X 4 0 0 14 [some (.ref a0), some (.int x1), some (.int x2), none] [] h
set_option maxRecDepth 100000 in
set_option maxHeartbeats 4000000 in
theorem zsX1_read_0 {E : Wd} {X : Mx} {d : Nat} {Q : Hp → Prop} (C : zz_C E X YX1_read (d + 1) 0 0 (fun r h' => r = none ∧ Q h')) (a0 : Nat) (x1 : Int32) (h : Hp) (v : vcX1_read_0 E d (zkX1_read_14 E X) a0 x1 h Q) : GG E X 4 0 0 0 [some (.ref a0), some (.int x1), none, none] [] h := by
  refine zg_aload_n (q := 1) C dX1_read_0 rfl rfl ?_
  refine zg_iload_n (q := 2) C dX1_read_1 rfl rfl ?_
  refine zg_iconst (v := 1) (q := 3) C dX1_read_2 (by decide) rfl ?_
  refine zg_iand (q := 4) C dX1_read_3 rfl ?_
  refine zg_put (j := 3) (q := 7) C bX1 (by decide) lkX1_28 dX1_read_4 rfl rfl v.1 rfl rfl ?_
  have v := v.2 _ rfl
  refine zg_aload_n (q := 8) C dX1_read_7 rfl rfl ?_
  refine zg_iconst (v := 0) (q := 9) C dX1_read_8 (by decide) rfl ?_
  refine zg_put (j := 4) (q := 12) C bX1 (by decide) lkX1_32 dX1_read_9 rfl rfl v.1 rfl rfl ?_
  have v := v.2 _ rfl
  refine zg_iconst (v := 0) (q := 13) C dX1_read_12 (by decide) rfl ?_
  refine zg_istore_n (q := 14) C dX1_read_13 (by decide) rfl ?_
  exact zg_mask [true, true, true, false] v
set_option maxRecDepth 100000 in
set_option maxHeartbeats 4000000 in
theorem zsX1_read_14 {E : Wd} {X : Mx} {d : Nat} {Q : Hp → Prop} (C : zz_C E X YX1_read (d + 1) 0 0 (fun r h' => r = none ∧ Q h')) (a0 : Nat) (x1 : Int32) (x2 : Int32) (h : Hp) (v : vcX1_read_14 E d (zkX1_read_14 E X) a0 x1 x2 h Q) : GG E X 4 0 0 14 [some (.ref a0), some (.int x1), some (.int x2), none] [] h := by
  refine zg_iload_n (q := 15) C dX1_read_14 rfl rfl ?_
  refine zg_aload_n (q := 16) C dX1_read_15 rfl rfl ?_
  refine zg_get (j := 2) (q := 19) C bX1 (by decide) lkX1_9 dX1_read_16 rfl (okA.get v.1) ?_
  have v := v.2
  refine zg_alen (t := 0) (q := 20) C (by decide) dX1_read_19 rfl v.1 ?_
  have v := v.2
  refine zg_icmp_ge (t := 69) (q := 23) C dX1_read_20 (by decide) rfl (fun c => ?_) (fun c => ?_)
  · have v := v.1 c
    exact zg_vret C rfl dX1_read_69 ⟨Nat.le_refl _, Nat.le_refl _⟩ ⟨rfl, v⟩
  · have v := v.2 c
    refine zg_aload_n (q := 24) C dX1_read_23 rfl rfl ?_
    refine zg_get (j := 0) (q := 27) C bX1 (by decide) lkX1_15 dX1_read_24 rfl (okA.get v.1) ?_
    have v := v.2
    refine zg_iload_n (q := 28) C dX1_read_27 rfl rfl ?_
    refine zg_iload_n (q := 29) C dX1_read_28 rfl rfl ?_
    refine zg_cV2I (q := 32) C mX4_squareOf vX4_squareOf lmX1_35 rfl (bX4).1 v.1 (Nat.le_of_ble_eq_true rfl) ⟨Nat.le_refl _, Nat.le_refl _⟩ dX1_read_29 rfl v.2 (fun r2 h1 v => ?_)
    refine zg_istore_n (q := 33) C dX1_read_32 (by decide) rfl ?_
    refine zg_aload_n (q := 34) C dX1_read_33 rfl rfl ?_
    refine zg_get (j := 2) (q := 37) C bX1 (by decide) lkX1_9 dX1_read_34 rfl (okA.get v.1) ?_
    have v := v.2
    refine zg_iload_n (q := 38) C dX1_read_37 rfl rfl ?_
    refine zg_iload_n (q := 39) C dX1_read_38 rfl rfl ?_
    refine zg_iast (q := 40) C dX1_read_39 rfl v.1 ?_
    have v := v.2 _ rfl
    refine zg_iload_n (q := 41) C dX1_read_40 rfl rfl ?_
    refine zg_aload_n (q := 42) C dX1_read_41 rfl rfl ?_
    refine zg_get (j := 0) (q := 45) C bX1 (by decide) lkX1_15 dX1_read_42 rfl (okA.get v.1) ?_
    have v := v.2
    refine zg_getN (j := 2) (q := 48) C bX4 (by decide) lkX1_41 dX1_read_45 rfl (okI.get v.1) ?_
    have v := v.2
    refine zg_icmp_ge (t := 63) (q := 51) C dX1_read_48 (by decide) rfl (fun c => ?_) (fun c => ?_)
    · have v := v.1 c
      refine zg_iinc (v := 1) (q := 66) C dX1_read_63 rfl (by decide) (by decide) rfl ?_
      refine zg_goto (t := 14) C dX1_read_66 (by decide) ?_
      exact zg_mask [true, true, true, false] v
    · have v := v.2 c
      refine zg_aload_n (q := 52) C dX1_read_51 rfl rfl ?_
      refine zg_dup (q := 53) C dX1_read_52 rfl rfl ?_
      refine zg_get (j := 4) (q := 56) C bX1 (by decide) lkX1_32 dX1_read_53 rfl (okI.get v.1) ?_
      have v := v.2
      refine zg_iconst (v := 1) (q := 57) C dX1_read_56 (by decide) rfl ?_
      refine zg_iload_n (q := 58) C dX1_read_57 rfl rfl ?_
      refine zg_ishl (q := 59) C dX1_read_58 rfl ?_
      refine zg_ior (q := 60) C dX1_read_59 rfl ?_
      refine zg_put (j := 4) (q := 63) C bX1 (by decide) lkX1_32 dX1_read_60 rfl rfl v.1 rfl rfl ?_
      have v := v.2 _ rfl
      refine zg_iinc (v := 1) (q := 66) C dX1_read_63 rfl (by decide) (by decide) rfl ?_
      refine zg_goto (t := 14) C dX1_read_66 (by decide) ?_
      exact zg_mask [true, true, true, false] v
theorem rnX1_read {E : Wd} {d : Nat} {a0 : Nat} {x1 : Int32} {h : Hp} {Q : Hp → Prop} (k : ∀ (K14 : Nat → Int32 → Int32 → Hp → Prop),(∀ (a0 : Nat) (x1 : Int32) (x2 : Int32) h, vcX1_read_14 E d K14 a0 x1 x2 h Q → K14 a0 x1 x2 h) → vcX1_read_0 E d K14 a0 x1 h Q) : OkV E YX1_read (d + 1) [.ref a0, .int x1] h Q :=
  zz_body2 (r := 2) mX1_read (zc_a (zc_i zc_n)) (Nat.le_of_ble_eq_true rfl) (fun X C => zsX1_read_0 C a0 x1 h (k (zkX1_read_14 E X) (fun a0 x1 x2 h v => zsX1_read_14 C a0 x1 x2 h v)))
def vcX1_placeOf_0 (E : Wd) (d : Nat) (a0 : Nat) (x1 : Int32) (h : Hp) (Q : Int32 → Hp → Prop) : Prop :=
  (x1 < (0 : Int32) → okA h a0 1 0 ∧ okI h (fA h a0 0) 4 2 ∧ Q (fI h (fA h a0 0) 2) h) ∧ (¬ x1 < (0 : Int32) → okA h a0 1 2 ∧ okL E h (fA h a0 2) 0 ∧ ((lA h (fA h a0 2)) ≤ x1 → okA h a0 1 0 ∧ okI h (fA h a0 0) 4 2 ∧ Q (fI h (fA h a0 0) 2) h) ∧ (¬ (lA h (fA h a0 2)) ≤ x1 → okA h a0 1 2 ∧ okR E h (fA h a0 2) 0 x1 ∧ Q (gA h (fA h a0 2) x1) h))
set_option maxRecDepth 100000 in
set_option maxHeartbeats 4000000 in
theorem zsX1_placeOf_0 {E : Wd} {X : Mx} {d : Nat} {Q : Int32 → Hp → Prop} (C : zz_C E X YX1_placeOf d 0 0 (fun r h' => ∃ x : Int32, r = some (.int x) ∧ Q x h')) (a0 : Nat) (x1 : Int32) (h : Hp) (v : vcX1_placeOf_0 E d a0 x1 h Q) : GG E X 2 0 0 0 [some (.ref a0), some (.int x1)] [] h := by
  refine zg_iload_n (q := 1) C dX1_placeOf_0 rfl rfl ?_
  refine zg_if_lt (t := 22) (q := 4) C dX1_placeOf_1 (by decide) rfl (fun c => ?_) (fun c => ?_)
  · have v := v.1 c
    refine zg_aload_n (q := 23) C dX1_placeOf_22 rfl rfl ?_
    refine zg_get (j := 0) (q := 26) C bX1 (by decide) lkX1_15 dX1_placeOf_23 rfl (okA.get v.1) ?_
    have v := v.2
    refine zg_getN (j := 2) (q := 29) C bX4 (by decide) lkX1_41 dX1_placeOf_26 rfl (okI.get v.1) ?_
    have v := v.2
    exact zg_iret C rfl dX1_placeOf_29 ⟨Nat.le_refl _, Nat.le_refl _⟩ ⟨_, rfl, v⟩
  · have v := v.2 c
    refine zg_iload_n (q := 5) C dX1_placeOf_4 rfl rfl ?_
    refine zg_aload_n (q := 6) C dX1_placeOf_5 rfl rfl ?_
    refine zg_get (j := 2) (q := 9) C bX1 (by decide) lkX1_9 dX1_placeOf_6 rfl (okA.get v.1) ?_
    have v := v.2
    refine zg_alen (t := 0) (q := 10) C (by decide) dX1_placeOf_9 rfl v.1 ?_
    have v := v.2
    refine zg_icmp_ge (t := 22) (q := 13) C dX1_placeOf_10 (by decide) rfl (fun c => ?_) (fun c => ?_)
    · have v := v.1 c
      refine zg_aload_n (q := 23) C dX1_placeOf_22 rfl rfl ?_
      refine zg_get (j := 0) (q := 26) C bX1 (by decide) lkX1_15 dX1_placeOf_23 rfl (okA.get v.1) ?_
      have v := v.2
      refine zg_getN (j := 2) (q := 29) C bX4 (by decide) lkX1_41 dX1_placeOf_26 rfl (okI.get v.1) ?_
      have v := v.2
      exact zg_iret C rfl dX1_placeOf_29 ⟨Nat.le_refl _, Nat.le_refl _⟩ ⟨_, rfl, v⟩
    · have v := v.2 c
      refine zg_aload_n (q := 14) C dX1_placeOf_13 rfl rfl ?_
      refine zg_get (j := 2) (q := 17) C bX1 (by decide) lkX1_9 dX1_placeOf_14 rfl (okA.get v.1) ?_
      have v := v.2
      refine zg_iload_n (q := 18) C dX1_placeOf_17 rfl rfl ?_
      refine zg_iald (q := 19) C dX1_placeOf_18 rfl v.1 ?_
      have v := v.2
      refine zg_goto (t := 29) C dX1_placeOf_19 (by decide) ?_
      exact zg_iret C rfl dX1_placeOf_29 ⟨Nat.le_refl _, Nat.le_refl _⟩ ⟨_, rfl, v⟩
theorem rnX1_placeOf {E : Wd} {d : Nat} {a0 : Nat} {x1 : Int32} {h : Hp} {Q : Int32 → Hp → Prop} (k : vcX1_placeOf_0 E d a0 x1 h Q) : OkI E YX1_placeOf d [.ref a0, .int x1] h Q :=
  zz_body2 (r := 0) mX1_placeOf (zc_a (zc_i zc_n)) (Nat.le_of_ble_eq_true rfl) (fun X C => zsX1_placeOf_0 C a0 x1 h k)
def vcX1_isOnBoard_0 (E : Wd) (d : Nat) (a0 : Nat) (x1 : Int32) (h : Hp) (Q : Int32 → Hp → Prop) : Prop :=
  isO h a0 1 ∧ OkI E YX1_placeOf d [.ref a0, .int x1] h (fun r2 h1 => okA h1 a0 1 0 ∧ okI h1 (fA h1 a0 0) 4 2 ∧ ((fI h1 (fA h1 a0 0) 2) ≤ r2 → mB 0 ∧ Q 0 h1) ∧ (¬ (fI h1 (fA h1 a0 0) 2) ≤ r2 → mB 1 ∧ Q 1 h1))
set_option maxRecDepth 100000 in
set_option maxHeartbeats 4000000 in
theorem zsX1_isOnBoard_0 {E : Wd} {X : Mx} {d : Nat} {Q : Int32 → Hp → Prop} (C : zz_C E X YX1_isOnBoard (d + 1) 0 0 (fun r h' => ∃ x : Int32, r = some (.int x) ∧ Q x h')) (a0 : Nat) (x1 : Int32) (h : Hp) (v : vcX1_isOnBoard_0 E d a0 x1 h Q) : GG E X 2 0 0 0 [some (.ref a0), some (.int x1)] [] h := by
  refine zg_aload_n (q := 1) C dX1_isOnBoard_0 rfl rfl ?_
  refine zg_iload_n (q := 2) C dX1_isOnBoard_1 rfl rfl ?_
  refine zg_cV1I (q := 5) C mX1_placeOf vX1_placeOf lmX1_44 rfl (bX1).1 v.1 (Nat.le_of_ble_eq_true rfl) ⟨Nat.le_refl _, Nat.le_refl _⟩ dX1_isOnBoard_2 rfl v.2 (fun r2 h1 v => ?_)
  refine zg_aload_n (q := 6) C dX1_isOnBoard_5 rfl rfl ?_
  refine zg_get (j := 0) (q := 9) C bX1 (by decide) lkX1_15 dX1_isOnBoard_6 rfl (okA.get v.1) ?_
  have v := v.2
  refine zg_getN (j := 2) (q := 12) C bX4 (by decide) lkX1_41 dX1_isOnBoard_9 rfl (okI.get v.1) ?_
  have v := v.2
  refine zg_icmp_ge (t := 19) (q := 15) C dX1_isOnBoard_12 (by decide) rfl (fun c => ?_) (fun c => ?_)
  · have v := v.1 c
    refine zg_iconst (v := 0) (q := 20) C dX1_isOnBoard_19 (by decide) rfl ?_
    exact zg_zret C rfl dX1_isOnBoard_20 ⟨Nat.le_refl _, Nat.le_refl _⟩ v.1 ⟨_, rfl, v.2⟩
  · have v := v.2 c
    refine zg_iconst (v := 1) (q := 16) C dX1_isOnBoard_15 (by decide) rfl ?_
    refine zg_goto (t := 20) C dX1_isOnBoard_16 (by decide) ?_
    exact zg_zret C rfl dX1_isOnBoard_20 ⟨Nat.le_refl _, Nat.le_refl _⟩ v.1 ⟨_, rfl, v.2⟩
theorem rnX1_isOnBoard {E : Wd} {d : Nat} {a0 : Nat} {x1 : Int32} {h : Hp} {Q : Int32 → Hp → Prop} (k : vcX1_isOnBoard_0 E d a0 x1 h Q) : OkI E YX1_isOnBoard (d + 1) [.ref a0, .int x1] h Q :=
  zz_body2 (r := 0) mX1_isOnBoard (zc_a (zc_i zc_n)) (Nat.le_of_ble_eq_true rfl) (fun X C => zsX1_isOnBoard_0 C a0 x1 h k)
def vcX1_missing_0 (E : Wd) (d : Nat) (K4 : Nat → Int32 → Int32 → Hp → Prop) (a0 : Nat) (h : Hp) (Q : Int32 → Hp → Prop) : Prop :=
  K4 a0 0 0 h
def vcX1_missing_4 (E : Wd) (d : Nat) (K4 : Nat → Int32 → Int32 → Hp → Prop) (a0 : Nat) (x1 : Int32) (x2 : Int32) (h : Hp) (Q : Int32 → Hp → Prop) : Prop :=
  okA h a0 1 0 ∧ okI h (fA h a0 0) 4 5 ∧ ((fI h (fA h a0 0) 5) ≤ x2 → Q x1 h) ∧ (¬ (fI h (fA h a0 0) 5) ≤ x2 → isO h a0 1 ∧ OkI E YX1_isOnBoard d [.ref a0, .int x2] h (fun r2 h1 => (¬ r2 = (0 : Int32) → K4 a0 x1 (x2 + 1) h1) ∧ (r2 = (0 : Int32) → K4 a0 (x1 + 1) (x2 + 1) h1)))
def zkX1_missing_4 (E : Wd) (X : Mx) : Nat → Int32 → Int32 → Hp → Prop := fun a0 x1 x2 h => GG E X 3 0 0 4 [some (.ref a0), some (.int x1), some (.int x2)] [] h
set_option maxRecDepth 100000 in
set_option maxHeartbeats 4000000 in
theorem zsX1_missing_0 {E : Wd} {X : Mx} {d : Nat} {Q : Int32 → Hp → Prop} (C : zz_C E X YX1_missing (d + 1) 0 0 (fun r h' => ∃ x : Int32, r = some (.int x) ∧ Q x h')) (a0 : Nat) (h : Hp) (v : vcX1_missing_0 E d (zkX1_missing_4 E X) a0 h Q) : GG E X 3 0 0 0 [some (.ref a0), none, none] [] h := by
  refine zg_iconst (v := 0) (q := 1) C dX1_missing_0 (by decide) rfl ?_
  refine zg_istore_n (q := 2) C dX1_missing_1 (by decide) rfl ?_
  refine zg_iconst (v := 0) (q := 3) C dX1_missing_2 (by decide) rfl ?_
  refine zg_istore_n (q := 4) C dX1_missing_3 (by decide) rfl ?_
  exact zg_mask [true, true, true] v
set_option maxRecDepth 100000 in
set_option maxHeartbeats 4000000 in
theorem zsX1_missing_4 {E : Wd} {X : Mx} {d : Nat} {Q : Int32 → Hp → Prop} (C : zz_C E X YX1_missing (d + 1) 0 0 (fun r h' => ∃ x : Int32, r = some (.int x) ∧ Q x h')) (a0 : Nat) (x1 : Int32) (x2 : Int32) (h : Hp) (v : vcX1_missing_4 E d (zkX1_missing_4 E X) a0 x1 x2 h Q) : GG E X 3 0 0 4 [some (.ref a0), some (.int x1), some (.int x2)] [] h := by
  refine zg_iload_n (q := 5) C dX1_missing_4 rfl rfl ?_
  refine zg_aload_n (q := 6) C dX1_missing_5 rfl rfl ?_
  refine zg_get (j := 0) (q := 9) C bX1 (by decide) lkX1_15 dX1_missing_6 rfl (okA.get v.1) ?_
  have v := v.2
  refine zg_getN (j := 5) (q := 12) C bX4 (by decide) lkX1_48 dX1_missing_9 rfl (okI.get v.1) ?_
  have v := v.2
  refine zg_icmp_ge (t := 32) (q := 15) C dX1_missing_12 (by decide) rfl (fun c => ?_) (fun c => ?_)
  · have v := v.1 c
    refine zg_iload_n (q := 33) C dX1_missing_32 rfl rfl ?_
    exact zg_iret C rfl dX1_missing_33 ⟨Nat.le_refl _, Nat.le_refl _⟩ ⟨_, rfl, v⟩
  · have v := v.2 c
    refine zg_aload_n (q := 16) C dX1_missing_15 rfl rfl ?_
    refine zg_iload_n (q := 17) C dX1_missing_16 rfl rfl ?_
    refine zg_cV1I (q := 20) C mX1_isOnBoard vX1_isOnBoard lmX1_51 rfl (bX1).1 v.1 (Nat.le_of_ble_eq_true rfl) ⟨Nat.le_refl _, Nat.le_refl _⟩ dX1_missing_17 rfl v.2 (fun r2 h1 v => ?_)
    refine zg_if_ne (t := 26) (q := 23) C dX1_missing_20 (by decide) rfl (fun c => ?_) (fun c => ?_)
    · have v := v.1 c
      refine zg_iinc (v := 1) (q := 29) C dX1_missing_26 rfl (by decide) (by decide) rfl ?_
      refine zg_goto (t := 4) C dX1_missing_29 (by decide) ?_
      exact zg_mask [true, true, true] v
    · have v := v.2 c
      refine zg_iinc (v := 1) (q := 26) C dX1_missing_23 rfl (by decide) (by decide) rfl ?_
      refine zg_iinc (v := 1) (q := 29) C dX1_missing_26 rfl (by decide) (by decide) rfl ?_
      refine zg_goto (t := 4) C dX1_missing_29 (by decide) ?_
      exact zg_mask [true, true, true] v
theorem rnX1_missing {E : Wd} {d : Nat} {a0 : Nat} {h : Hp} {Q : Int32 → Hp → Prop} (k : ∀ (K4 : Nat → Int32 → Int32 → Hp → Prop),(∀ (a0 : Nat) (x1 : Int32) (x2 : Int32) h, vcX1_missing_4 E d K4 a0 x1 x2 h Q → K4 a0 x1 x2 h) → vcX1_missing_0 E d K4 a0 h Q) : OkI E YX1_missing (d + 1) [.ref a0] h Q :=
  zz_body2 (r := 2) mX1_missing (zc_a zc_n) (Nat.le_of_ble_eq_true rfl) (fun X C => zsX1_missing_0 C a0 h (k (zkX1_missing_4 E X) (fun a0 x1 x2 h v => zsX1_missing_4 C a0 x1 x2 h v)))
def vcX1_isPossible_0 (E : Wd) (d : Nat) (K4 : Nat → Int32 → Int32 → Hp → Prop) (a0 : Nat) (h : Hp) (Q : Int32 → Hp → Prop) : Prop :=
  K4 a0 0 0 h
def vcX1_isPossible_4 (E : Wd) (d : Nat) (K4 : Nat → Int32 → Int32 → Hp → Prop) (a0 : Nat) (x1 : Int32) (x2 : Int32) (h : Hp) (Q : Int32 → Hp → Prop) : Prop :=
  okA h a0 1 2 ∧ okL E h (fA h a0 2) 0 ∧ ((lA h (fA h a0 2)) ≤ x2 → isO h a0 1 ∧ OkI E YX1_isOnBoard d [.ref a0, .int 0] h (fun r2 h1 => (r2 = (0 : Int32) → mB 0 ∧ Q 0 h1) ∧ (¬ r2 = (0 : Int32) → okA h1 a0 1 0 ∧ okI h1 (fA h1 a0 0) 4 6 ∧ isO h1 a0 1 ∧ OkI E YX1_isOnBoard d [.ref a0, .int (fI h1 (fA h1 a0 0) 6)] h1 (fun r4 h3 => (¬ r4 = (0 : Int32) → okI h3 a0 1 4 ∧ OkI E YJ6_bitCount_0f7a4 d [.int (fI h3 a0 4)] h3 (fun r6 h5 => (¬ r6 = x1 → mB 0 ∧ Q 0 h5) ∧ (r6 = x1 → okI h5 a0 1 4 ∧ okA h5 a0 1 0 ∧ okI h5 (fA h5 a0 0) 4 3 ∧ (((fI h5 a0 4) &&& (fI h5 (fA h5 a0 0) 3)) = (0 : Int32) → okI h5 a0 1 3 ∧ isO h5 a0 1 ∧ OkI E YX1_isAttacked d [.ref a0, .int ((1 : Int32) - (fI h5 a0 3))] h5 (fun r8 h7 => (¬ r8 = (0 : Int32) → mB 0 ∧ Q 0 h7) ∧ (r8 = (0 : Int32) → mB 1 ∧ Q 1 h7))) ∧ (¬ ((fI h5 a0 4) &&& (fI h5 (fA h5 a0 0) 3)) = (0 : Int32) → mB 0 ∧ Q 0 h5)))) ∧ (r4 = (0 : Int32) → mB 0 ∧ Q 0 h3))))) ∧ (¬ (lA h (fA h a0 2)) ≤ x2 → isO h a0 1 ∧ OkI E YX1_isOnBoard d [.ref a0, .int x2] h (fun r10 h9 => (¬ r10 = (0 : Int32) → okA h9 a0 1 0 ∧ isO h9 (fA h9 a0 0) 4 ∧ OkI E YX4_isMan d [.ref (fA h9 a0 0), .int x2] h9 (fun r12 h11 => (¬ r12 = (0 : Int32) → K4 a0 (x1 + 1) (x2 + 1) h11) ∧ (r12 = (0 : Int32) → mB 0 ∧ Q 0 h11))) ∧ (r10 = (0 : Int32) → K4 a0 x1 (x2 + 1) h9)))
def zkX1_isPossible_4 (E : Wd) (X : Mx) : Nat → Int32 → Int32 → Hp → Prop := fun a0 x1 x2 h => GG E X 3 0 0 4 [some (.ref a0), some (.int x1), some (.int x2)] [] h
set_option maxRecDepth 100000 in
set_option maxHeartbeats 4000000 in
theorem zsX1_isPossible_0 {E : Wd} {X : Mx} {d : Nat} {Q : Int32 → Hp → Prop} (C : zz_C E X YX1_isPossible (d + 1) 0 0 (fun r h' => ∃ x : Int32, r = some (.int x) ∧ Q x h')) (a0 : Nat) (h : Hp) (v : vcX1_isPossible_0 E d (zkX1_isPossible_4 E X) a0 h Q) : GG E X 3 0 0 0 [some (.ref a0), none, none] [] h := by
  refine zg_iconst (v := 0) (q := 1) C dX1_isPossible_0 (by decide) rfl ?_
  refine zg_istore_n (q := 2) C dX1_isPossible_1 (by decide) rfl ?_
  refine zg_iconst (v := 0) (q := 3) C dX1_isPossible_2 (by decide) rfl ?_
  refine zg_istore_n (q := 4) C dX1_isPossible_3 (by decide) rfl ?_
  exact zg_mask [true, true, true] v
set_option maxRecDepth 100000 in
set_option maxHeartbeats 4000000 in
theorem zsX1_isPossible_4 {E : Wd} {X : Mx} {d : Nat} {Q : Int32 → Hp → Prop} (C : zz_C E X YX1_isPossible (d + 1) 0 0 (fun r h' => ∃ x : Int32, r = some (.int x) ∧ Q x h')) (a0 : Nat) (x1 : Int32) (x2 : Int32) (h : Hp) (v : vcX1_isPossible_4 E d (zkX1_isPossible_4 E X) a0 x1 x2 h Q) : GG E X 3 0 0 4 [some (.ref a0), some (.int x1), some (.int x2)] [] h := by
  refine zg_iload_n (q := 5) C dX1_isPossible_4 rfl rfl ?_
  refine zg_aload_n (q := 6) C dX1_isPossible_5 rfl rfl ?_
  refine zg_get (j := 2) (q := 9) C bX1 (by decide) lkX1_9 dX1_isPossible_6 rfl (okA.get v.1) ?_
  have v := v.2
  refine zg_alen (t := 0) (q := 10) C (by decide) dX1_isPossible_9 rfl v.1 ?_
  have v := v.2
  refine zg_icmp_ge (t := 46) (q := 13) C dX1_isPossible_10 (by decide) rfl (fun c => ?_) (fun c => ?_)
  · have v := v.1 c
    refine zg_aload_n (q := 47) C dX1_isPossible_46 rfl rfl ?_
    refine zg_iconst (v := 0) (q := 48) C dX1_isPossible_47 (by decide) rfl ?_
    refine zg_cV1I (q := 51) C mX1_isOnBoard vX1_isOnBoard lmX1_51 rfl (bX1).1 v.1 (Nat.le_of_ble_eq_true rfl) ⟨Nat.le_refl _, Nat.le_refl _⟩ dX1_isPossible_48 rfl v.2 (fun r2 h1 v => ?_)
    refine zg_if_eq (t := 68) (q := 54) C dX1_isPossible_51 (by decide) rfl (fun c => ?_) (fun c => ?_)
    · have v := v.1 c
      refine zg_iconst (v := 0) (q := 69) C dX1_isPossible_68 (by decide) rfl ?_
      exact zg_zret C rfl dX1_isPossible_69 ⟨Nat.le_refl _, Nat.le_refl _⟩ v.1 ⟨_, rfl, v.2⟩
    · have v := v.2 c
      refine zg_aload_n (q := 55) C dX1_isPossible_54 rfl rfl ?_
      refine zg_aload_n (q := 56) C dX1_isPossible_55 rfl rfl ?_
      refine zg_get (j := 0) (q := 59) C bX1 (by decide) lkX1_15 dX1_isPossible_56 rfl (okA.get v.1) ?_
      have v := v.2
      refine zg_getN (j := 6) (q := 62) C bX4 (by decide) lkX1_58 dX1_isPossible_59 rfl (okI.get v.1) ?_
      have v := v.2
      refine zg_cV1I (q := 65) C mX1_isOnBoard vX1_isOnBoard lmX1_51 rfl (bX1).1 v.1 (Nat.le_of_ble_eq_true rfl) ⟨Nat.le_refl _, Nat.le_refl _⟩ dX1_isPossible_62 rfl v.2 (fun r4 h3 v => ?_)
      refine zg_if_ne (t := 70) (q := 68) C dX1_isPossible_65 (by decide) rfl (fun c => ?_) (fun c => ?_)
      · have v := v.1 c
        refine zg_aload_n (q := 71) C dX1_isPossible_70 rfl rfl ?_
        refine zg_get (j := 4) (q := 74) C bX1 (by decide) lkX1_32 dX1_isPossible_71 rfl (okI.get v.1) ?_
        have v := v.2
        refine zg_cS1I (q := 77) C mJ6_bitCount_0f7a4 tJ6_bitCount_0f7a4 lmX1_61 rfl (Nat.le_of_ble_eq_true rfl) ⟨Nat.le_refl _, Nat.le_refl _⟩ dX1_isPossible_74 rfl v (fun r6 h5 v => ?_)
        refine zg_iload_n (q := 78) C dX1_isPossible_77 rfl rfl ?_
        refine zg_icmp_ne (t := 96) (q := 81) C dX1_isPossible_78 (by decide) rfl (fun c => ?_) (fun c => ?_)
        · have v := v.1 c
          refine zg_iconst (v := 0) (q := 97) C dX1_isPossible_96 (by decide) rfl ?_
          exact zg_zret C rfl dX1_isPossible_97 ⟨Nat.le_refl _, Nat.le_refl _⟩ v.1 ⟨_, rfl, v.2⟩
        · have v := v.2 c
          refine zg_aload_n (q := 82) C dX1_isPossible_81 rfl rfl ?_
          refine zg_get (j := 4) (q := 85) C bX1 (by decide) lkX1_32 dX1_isPossible_82 rfl (okI.get v.1) ?_
          have v := v.2
          refine zg_aload_n (q := 86) C dX1_isPossible_85 rfl rfl ?_
          refine zg_get (j := 0) (q := 89) C bX1 (by decide) lkX1_15 dX1_isPossible_86 rfl (okA.get v.1) ?_
          have v := v.2
          refine zg_getN (j := 3) (q := 92) C bX4 (by decide) lkX1_66 dX1_isPossible_89 rfl (okI.get v.1) ?_
          have v := v.2
          refine zg_iand (q := 93) C dX1_isPossible_92 rfl ?_
          refine zg_if_eq (t := 98) (q := 96) C dX1_isPossible_93 (by decide) rfl (fun c => ?_) (fun c => ?_)
          · have v := v.1 c
            refine zg_aload_n (q := 99) C dX1_isPossible_98 rfl rfl ?_
            refine zg_iconst (v := 1) (q := 100) C dX1_isPossible_99 (by decide) rfl ?_
            refine zg_aload_n (q := 101) C dX1_isPossible_100 rfl rfl ?_
            refine zg_get (j := 3) (q := 104) C bX1 (by decide) lkX1_28 dX1_isPossible_101 rfl (okI.get v.1) ?_
            have v := v.2
            refine zg_isub (q := 105) C dX1_isPossible_104 rfl ?_
            refine zg_cV1I (q := 108) C mX1_isAttacked vX1_isAttacked lmX1_69 rfl (bX1).1 v.1 (Nat.le_of_ble_eq_true rfl) ⟨Nat.le_refl _, Nat.le_refl _⟩ dX1_isPossible_105 rfl v.2 (fun r8 h7 v => ?_)
            refine zg_if_ne (t := 115) (q := 111) C dX1_isPossible_108 (by decide) rfl (fun c => ?_) (fun c => ?_)
            · have v := v.1 c
              refine zg_iconst (v := 0) (q := 116) C dX1_isPossible_115 (by decide) rfl ?_
              exact zg_zret C rfl dX1_isPossible_116 ⟨Nat.le_refl _, Nat.le_refl _⟩ v.1 ⟨_, rfl, v.2⟩
            · have v := v.2 c
              refine zg_iconst (v := 1) (q := 112) C dX1_isPossible_111 (by decide) rfl ?_
              refine zg_goto (t := 116) C dX1_isPossible_112 (by decide) ?_
              exact zg_zret C rfl dX1_isPossible_116 ⟨Nat.le_refl _, Nat.le_refl _⟩ v.1 ⟨_, rfl, v.2⟩
          · have v := v.2 c
            refine zg_iconst (v := 0) (q := 97) C dX1_isPossible_96 (by decide) rfl ?_
            exact zg_zret C rfl dX1_isPossible_97 ⟨Nat.le_refl _, Nat.le_refl _⟩ v.1 ⟨_, rfl, v.2⟩
      · have v := v.2 c
        refine zg_iconst (v := 0) (q := 69) C dX1_isPossible_68 (by decide) rfl ?_
        exact zg_zret C rfl dX1_isPossible_69 ⟨Nat.le_refl _, Nat.le_refl _⟩ v.1 ⟨_, rfl, v.2⟩
  · have v := v.2 c
    refine zg_aload_n (q := 14) C dX1_isPossible_13 rfl rfl ?_
    refine zg_iload_n (q := 15) C dX1_isPossible_14 rfl rfl ?_
    refine zg_cV1I (q := 18) C mX1_isOnBoard vX1_isOnBoard lmX1_51 rfl (bX1).1 v.1 (Nat.le_of_ble_eq_true rfl) ⟨Nat.le_refl _, Nat.le_refl _⟩ dX1_isPossible_15 rfl v.2 (fun r10 h9 v => ?_)
    refine zg_if_ne (t := 24) (q := 21) C dX1_isPossible_18 (by decide) rfl (fun c => ?_) (fun c => ?_)
    · have v := v.1 c
      refine zg_aload_n (q := 25) C dX1_isPossible_24 rfl rfl ?_
      refine zg_get (j := 0) (q := 28) C bX1 (by decide) lkX1_15 dX1_isPossible_25 rfl (okA.get v.1) ?_
      have v := v.2
      refine zg_iload_n (q := 29) C dX1_isPossible_28 rfl rfl ?_
      refine zg_cV1I (q := 32) C mX4_isMan vX4_isMan lmX1_55 rfl (bX4).1 v.1 (Nat.le_of_ble_eq_true rfl) ⟨Nat.le_refl _, Nat.le_refl _⟩ dX1_isPossible_29 rfl v.2 (fun r12 h11 v => ?_)
      refine zg_if_ne (t := 37) (q := 35) C dX1_isPossible_32 (by decide) rfl (fun c => ?_) (fun c => ?_)
      · have v := v.1 c
        refine zg_iinc (v := 1) (q := 40) C dX1_isPossible_37 rfl (by decide) (by decide) rfl ?_
        refine zg_iinc (v := 1) (q := 43) C dX1_isPossible_40 rfl (by decide) (by decide) rfl ?_
        refine zg_goto (t := 4) C dX1_isPossible_43 (by decide) ?_
        exact zg_mask [true, true, true] v
      · have v := v.2 c
        refine zg_iconst (v := 0) (q := 36) C dX1_isPossible_35 (by decide) rfl ?_
        exact zg_zret C rfl dX1_isPossible_36 ⟨Nat.le_refl _, Nat.le_refl _⟩ v.1 ⟨_, rfl, v.2⟩
    · have v := v.2 c
      refine zg_goto (t := 40) C dX1_isPossible_21 (by decide) ?_
      refine zg_iinc (v := 1) (q := 43) C dX1_isPossible_40 rfl (by decide) (by decide) rfl ?_
      refine zg_goto (t := 4) C dX1_isPossible_43 (by decide) ?_
      exact zg_mask [true, true, true] v
theorem rnX1_isPossible {E : Wd} {d : Nat} {a0 : Nat} {h : Hp} {Q : Int32 → Hp → Prop} (k : ∀ (K4 : Nat → Int32 → Int32 → Hp → Prop),(∀ (a0 : Nat) (x1 : Int32) (x2 : Int32) h, vcX1_isPossible_4 E d K4 a0 x1 x2 h Q → K4 a0 x1 x2 h) → vcX1_isPossible_0 E d K4 a0 h Q) : OkI E YX1_isPossible (d + 1) [.ref a0] h Q :=
  zz_body2 (r := 2) mX1_isPossible (zc_a zc_n) (Nat.le_of_ble_eq_true rfl) (fun X C => zsX1_isPossible_0 C a0 h (k (zkX1_isPossible_4 E X) (fun a0 x1 x2 h v => zsX1_isPossible_4 C a0 x1 x2 h v)))
def vcX1_isAttacked_0 (E : Wd) (d : Nat) (K27 : Nat → Int32 → Int32 → Int32 → Hp → Prop) (a0 : Nat) (x1 : Int32) (h : Hp) (Q : Int32 → Hp → Prop) : Prop :=
  okA h a0 1 0 ∧ isO h (fA h a0 0) 4 ∧ OkI E YX4_firstMan d [.ref (fA h a0 0), .int x1] h (fun r2 h1 => isO h1 a0 1 ∧ OkI E YX1_placeOf d [.ref a0, .int r2] h1 (fun r4 h3 => okA h3 a0 1 0 ∧ isO h3 (fA h3 a0 0) 4 ∧ OkI E YX4_firstMan d [.ref (fA h3 a0 0), .int ((1 : Int32) - x1)] h3 (fun r6 h5 => K27 a0 r4 ((1 : Int32) - x1) r6 h5)))
def vcX1_isAttacked_27 (E : Wd) (d : Nat) (K27 : Nat → Int32 → Int32 → Int32 → Hp → Prop) (a0 : Nat) (x2 : Int32) (x3 : Int32) (x4 : Int32) (h : Hp) (Q : Int32 → Hp → Prop) : Prop :=
  okA h a0 1 0 ∧ isO h (fA h a0 0) 4 ∧ OkI E YX4_endOfMen d [.ref (fA h a0 0), .int x3] h (fun r2 h1 => (r2 ≤ x4 → mB 0 ∧ Q 0 h1) ∧ (¬ r2 ≤ x4 → okA h1 a0 1 1 ∧ isO h1 a0 1 ∧ OkI E YX1_placeOf d [.ref a0, .int x4] h1 (fun r4 h3 => isO h3 (fA h1 a0 1) 2 ∧ OkI E YX2_wayOf d [.ref (fA h1 a0 1), .int x4, .int r4, .int x2, .int 1] h3 (fun r6 h5 => (r6 < (0 : Int32) → K27 a0 x2 x3 (x4 + 1) h5) ∧ (¬ r6 < (0 : Int32) → okI h5 a0 1 4 ∧ (¬ (r6 &&& (fI h5 a0 4)) = (0 : Int32) → K27 a0 x2 x3 (x4 + 1) h5) ∧ ((r6 &&& (fI h5 a0 4)) = (0 : Int32) → mB 1 ∧ Q 1 h5))))))
def zkX1_isAttacked_27 (E : Wd) (X : Mx) : Nat → Int32 → Int32 → Int32 → Hp → Prop := fun a0 x2 x3 x4 h => GG E X 6 0 0 27 [some (.ref a0), none, some (.int x2), some (.int x3), some (.int x4), none] [] h
set_option maxRecDepth 100000 in
set_option maxHeartbeats 4000000 in
theorem zsX1_isAttacked_0 {E : Wd} {X : Mx} {d : Nat} {Q : Int32 → Hp → Prop} (C : zz_C E X YX1_isAttacked (d + 1) 0 0 (fun r h' => ∃ x : Int32, r = some (.int x) ∧ Q x h')) (a0 : Nat) (x1 : Int32) (h : Hp) (v : vcX1_isAttacked_0 E d (zkX1_isAttacked_27 E X) a0 x1 h Q) : GG E X 6 0 0 0 [some (.ref a0), some (.int x1), none, none, none, none] [] h := by
  refine zg_aload_n (q := 1) C dX1_isAttacked_0 rfl rfl ?_
  refine zg_aload_n (q := 2) C dX1_isAttacked_1 rfl rfl ?_
  refine zg_get (j := 0) (q := 5) C bX1 (by decide) lkX1_15 dX1_isAttacked_2 rfl (okA.get v.1) ?_
  have v := v.2
  refine zg_iload_n (q := 6) C dX1_isAttacked_5 rfl rfl ?_
  refine zg_cV1I (q := 9) C mX4_firstMan vX4_firstMan lmX1_72 rfl (bX4).1 v.1 (Nat.le_of_ble_eq_true rfl) ⟨Nat.le_refl _, Nat.le_refl _⟩ dX1_isAttacked_6 rfl v.2 (fun r2 h1 v => ?_)
  refine zg_cV1I (q := 12) C mX1_placeOf vX1_placeOf lmX1_44 rfl (bX1).1 v.1 (Nat.le_of_ble_eq_true rfl) ⟨Nat.le_refl _, Nat.le_refl _⟩ dX1_isAttacked_9 rfl v.2 (fun r4 h3 v => ?_)
  refine zg_istore_n (q := 13) C dX1_isAttacked_12 (by decide) rfl ?_
  refine zg_iconst (v := 1) (q := 14) C dX1_isAttacked_13 (by decide) rfl ?_
  refine zg_iload_n (q := 15) C dX1_isAttacked_14 rfl rfl ?_
  refine zg_isub (q := 16) C dX1_isAttacked_15 rfl ?_
  refine zg_istore_n (q := 17) C dX1_isAttacked_16 (by decide) rfl ?_
  refine zg_aload_n (q := 18) C dX1_isAttacked_17 rfl rfl ?_
  refine zg_get (j := 0) (q := 21) C bX1 (by decide) lkX1_15 dX1_isAttacked_18 rfl (okA.get v.1) ?_
  have v := v.2
  refine zg_iload_n (q := 22) C dX1_isAttacked_21 rfl rfl ?_
  refine zg_cV1I (q := 25) C mX4_firstMan vX4_firstMan lmX1_72 rfl (bX4).1 v.1 (Nat.le_of_ble_eq_true rfl) ⟨Nat.le_refl _, Nat.le_refl _⟩ dX1_isAttacked_22 rfl v.2 (fun r6 h5 v => ?_)
  refine zg_istore (q := 27) C dX1_isAttacked_25 (by decide) rfl ?_
  exact zg_mask [true, false, true, true, true, false] v
set_option maxRecDepth 100000 in
set_option maxHeartbeats 4000000 in
theorem zsX1_isAttacked_27 {E : Wd} {X : Mx} {d : Nat} {Q : Int32 → Hp → Prop} (C : zz_C E X YX1_isAttacked (d + 1) 0 0 (fun r h' => ∃ x : Int32, r = some (.int x) ∧ Q x h')) (a0 : Nat) (x2 : Int32) (x3 : Int32) (x4 : Int32) (h : Hp) (v : vcX1_isAttacked_27 E d (zkX1_isAttacked_27 E X) a0 x2 x3 x4 h Q) : GG E X 6 0 0 27 [some (.ref a0), none, some (.int x2), some (.int x3), some (.int x4), none] [] h := by
  refine zg_iload (q := 29) C dX1_isAttacked_27 rfl rfl ?_
  refine zg_aload_n (q := 30) C dX1_isAttacked_29 rfl rfl ?_
  refine zg_get (j := 0) (q := 33) C bX1 (by decide) lkX1_15 dX1_isAttacked_30 rfl (okA.get v.1) ?_
  have v := v.2
  refine zg_iload_n (q := 34) C dX1_isAttacked_33 rfl rfl ?_
  refine zg_cV1I (q := 37) C mX4_endOfMen vX4_endOfMen lmX1_75 rfl (bX4).1 v.1 (Nat.le_of_ble_eq_true rfl) ⟨Nat.le_refl _, Nat.le_refl _⟩ dX1_isAttacked_34 rfl v.2 (fun r2 h1 v => ?_)
  refine zg_icmp_ge (t := 82) (q := 40) C dX1_isAttacked_37 (by decide) rfl (fun c => ?_) (fun c => ?_)
  · have v := v.1 c
    refine zg_iconst (v := 0) (q := 83) C dX1_isAttacked_82 (by decide) rfl ?_
    exact zg_zret C rfl dX1_isAttacked_83 ⟨Nat.le_refl _, Nat.le_refl _⟩ v.1 ⟨_, rfl, v.2⟩
  · have v := v.2 c
    refine zg_aload_n (q := 41) C dX1_isAttacked_40 rfl rfl ?_
    refine zg_get (j := 1) (q := 44) C bX1 (by decide) lkX1_24 dX1_isAttacked_41 rfl (okA.get v.1) ?_
    have v := v.2
    refine zg_iload (q := 46) C dX1_isAttacked_44 rfl rfl ?_
    refine zg_aload_n (q := 47) C dX1_isAttacked_46 rfl rfl ?_
    refine zg_iload (q := 49) C dX1_isAttacked_47 rfl rfl ?_
    refine zg_cV1I (q := 52) C mX1_placeOf vX1_placeOf lmX1_44 rfl (bX1).1 v.1 (Nat.le_of_ble_eq_true rfl) ⟨Nat.le_refl _, Nat.le_refl _⟩ dX1_isAttacked_49 rfl v.2 (fun r4 h3 v => ?_)
    refine zg_iload_n (q := 53) C dX1_isAttacked_52 rfl rfl ?_
    refine zg_iconst (v := 1) (q := 54) C dX1_isAttacked_53 (by decide) rfl ?_
    refine zg_cV4I (q := 57) C mX2_wayOf vX2_wayOf lmX1_78 rfl (bX2).1 v.1 (Nat.le_of_ble_eq_true rfl) ⟨Nat.le_refl _, Nat.le_refl _⟩ dX1_isAttacked_54 rfl v.2 (fun r6 h5 v => ?_)
    refine zg_istore (q := 59) C dX1_isAttacked_57 (by decide) rfl ?_
    refine zg_iload (q := 61) C dX1_isAttacked_59 rfl rfl ?_
    refine zg_if_lt (t := 76) (q := 64) C dX1_isAttacked_61 (by decide) rfl (fun c => ?_) (fun c => ?_)
    · have v := v.1 c
      refine zg_iinc (v := 1) (q := 79) C dX1_isAttacked_76 rfl (by decide) (by decide) rfl ?_
      refine zg_goto (t := 27) C dX1_isAttacked_79 (by decide) ?_
      exact zg_mask [true, false, true, true, true, false] v
    · have v := v.2 c
      refine zg_iload (q := 66) C dX1_isAttacked_64 rfl rfl ?_
      refine zg_aload_n (q := 67) C dX1_isAttacked_66 rfl rfl ?_
      refine zg_get (j := 4) (q := 70) C bX1 (by decide) lkX1_32 dX1_isAttacked_67 rfl (okI.get v.1) ?_
      have v := v.2
      refine zg_iand (q := 71) C dX1_isAttacked_70 rfl ?_
      refine zg_if_ne (t := 76) (q := 74) C dX1_isAttacked_71 (by decide) rfl (fun c => ?_) (fun c => ?_)
      · have v := v.1 c
        refine zg_iinc (v := 1) (q := 79) C dX1_isAttacked_76 rfl (by decide) (by decide) rfl ?_
        refine zg_goto (t := 27) C dX1_isAttacked_79 (by decide) ?_
        exact zg_mask [true, false, true, true, true, false] v
      · have v := v.2 c
        refine zg_iconst (v := 1) (q := 75) C dX1_isAttacked_74 (by decide) rfl ?_
        exact zg_zret C rfl dX1_isAttacked_75 ⟨Nat.le_refl _, Nat.le_refl _⟩ v.1 ⟨_, rfl, v.2⟩
theorem rnX1_isAttacked {E : Wd} {d : Nat} {a0 : Nat} {x1 : Int32} {h : Hp} {Q : Int32 → Hp → Prop} (k : ∀ (K27 : Nat → Int32 → Int32 → Int32 → Hp → Prop),(∀ (a0 : Nat) (x2 : Int32) (x3 : Int32) (x4 : Int32) h, vcX1_isAttacked_27 E d K27 a0 x2 x3 x4 h Q → K27 a0 x2 x3 x4 h) → vcX1_isAttacked_0 E d K27 a0 x1 h Q) : OkI E YX1_isAttacked (d + 1) [.ref a0, .int x1] h Q :=
  zz_body2 (r := 4) mX1_isAttacked (zc_a (zc_i zc_n)) (Nat.le_of_ble_eq_true rfl) (fun X C => zsX1_isAttacked_0 C a0 x1 h (k (zkX1_isAttacked_27 E X) (fun a0 x2 x3 x4 h v => zsX1_isAttacked_27 C a0 x2 x3 x4 h v)))
def vcX1_manOn_0 (E : Wd) (d : Nat) (K2 : Nat → Int32 → Int32 → Hp → Prop) (a0 : Nat) (x1 : Int32) (h : Hp) (Q : Int32 → Hp → Prop) : Prop :=
  K2 a0 x1 0 h
def vcX1_manOn_2 (E : Wd) (d : Nat) (K2 : Nat → Int32 → Int32 → Hp → Prop) (a0 : Nat) (x1 : Int32) (x2 : Int32) (h : Hp) (Q : Int32 → Hp → Prop) : Prop :=
  okA h a0 1 0 ∧ okI h (fA h a0 0) 4 5 ∧ ((fI h (fA h a0 0) 5) ≤ x2 → Q ((-1)) h) ∧ (¬ (fI h (fA h a0 0) 5) ≤ x2 → isO h a0 1 ∧ OkI E YX1_placeOf d [.ref a0, .int x2] h (fun r2 h1 => (¬ r2 = x1 → K2 a0 x1 (x2 + 1) h1) ∧ (r2 = x1 → Q x2 h1)))
def zkX1_manOn_2 (E : Wd) (X : Mx) : Nat → Int32 → Int32 → Hp → Prop := fun a0 x1 x2 h => GG E X 3 0 0 2 [some (.ref a0), some (.int x1), some (.int x2)] [] h
set_option maxRecDepth 100000 in
set_option maxHeartbeats 4000000 in
theorem zsX1_manOn_0 {E : Wd} {X : Mx} {d : Nat} {Q : Int32 → Hp → Prop} (C : zz_C E X YX1_manOn (d + 1) 0 0 (fun r h' => ∃ x : Int32, r = some (.int x) ∧ Q x h')) (a0 : Nat) (x1 : Int32) (h : Hp) (v : vcX1_manOn_0 E d (zkX1_manOn_2 E X) a0 x1 h Q) : GG E X 3 0 0 0 [some (.ref a0), some (.int x1), none] [] h := by
  refine zg_iconst (v := 0) (q := 1) C dX1_manOn_0 (by decide) rfl ?_
  refine zg_istore_n (q := 2) C dX1_manOn_1 (by decide) rfl ?_
  exact zg_mask [true, true, true] v
set_option maxRecDepth 100000 in
set_option maxHeartbeats 4000000 in
theorem zsX1_manOn_2 {E : Wd} {X : Mx} {d : Nat} {Q : Int32 → Hp → Prop} (C : zz_C E X YX1_manOn (d + 1) 0 0 (fun r h' => ∃ x : Int32, r = some (.int x) ∧ Q x h')) (a0 : Nat) (x1 : Int32) (x2 : Int32) (h : Hp) (v : vcX1_manOn_2 E d (zkX1_manOn_2 E X) a0 x1 x2 h Q) : GG E X 3 0 0 2 [some (.ref a0), some (.int x1), some (.int x2)] [] h := by
  refine zg_iload_n (q := 3) C dX1_manOn_2 rfl rfl ?_
  refine zg_aload_n (q := 4) C dX1_manOn_3 rfl rfl ?_
  refine zg_get (j := 0) (q := 7) C bX1 (by decide) lkX1_15 dX1_manOn_4 rfl (okA.get v.1) ?_
  have v := v.2
  refine zg_getN (j := 5) (q := 10) C bX4 (by decide) lkX1_48 dX1_manOn_7 rfl (okI.get v.1) ?_
  have v := v.2
  refine zg_icmp_ge (t := 30) (q := 13) C dX1_manOn_10 (by decide) rfl (fun c => ?_) (fun c => ?_)
  · have v := v.1 c
    refine zg_iconst (v := (-1)) (q := 31) C dX1_manOn_30 (by decide) rfl ?_
    exact zg_iret C rfl dX1_manOn_31 ⟨Nat.le_refl _, Nat.le_refl _⟩ ⟨_, rfl, v⟩
  · have v := v.2 c
    refine zg_aload_n (q := 14) C dX1_manOn_13 rfl rfl ?_
    refine zg_iload_n (q := 15) C dX1_manOn_14 rfl rfl ?_
    refine zg_cV1I (q := 18) C mX1_placeOf vX1_placeOf lmX1_44 rfl (bX1).1 v.1 (Nat.le_of_ble_eq_true rfl) ⟨Nat.le_refl _, Nat.le_refl _⟩ dX1_manOn_15 rfl v.2 (fun r2 h1 v => ?_)
    refine zg_iload_n (q := 19) C dX1_manOn_18 rfl rfl ?_
    refine zg_icmp_ne (t := 24) (q := 22) C dX1_manOn_19 (by decide) rfl (fun c => ?_) (fun c => ?_)
    · have v := v.1 c
      refine zg_iinc (v := 1) (q := 27) C dX1_manOn_24 rfl (by decide) (by decide) rfl ?_
      refine zg_goto (t := 2) C dX1_manOn_27 (by decide) ?_
      exact zg_mask [true, true, true] v
    · have v := v.2 c
      refine zg_iload_n (q := 23) C dX1_manOn_22 rfl rfl ?_
      exact zg_iret C rfl dX1_manOn_23 ⟨Nat.le_refl _, Nat.le_refl _⟩ ⟨_, rfl, v⟩
theorem rnX1_manOn {E : Wd} {d : Nat} {a0 : Nat} {x1 : Int32} {h : Hp} {Q : Int32 → Hp → Prop} (k : ∀ (K2 : Nat → Int32 → Int32 → Hp → Prop),(∀ (a0 : Nat) (x1 : Int32) (x2 : Int32) h, vcX1_manOn_2 E d K2 a0 x1 x2 h Q → K2 a0 x1 x2 h) → vcX1_manOn_0 E d K2 a0 x1 h Q) : OkI E YX1_manOn (d + 1) [.ref a0, .int x1] h Q :=
  zz_body2 (r := 1) mX1_manOn (zc_a (zc_i zc_n)) (Nat.le_of_ble_eq_true rfl) (fun X C => zsX1_manOn_0 C a0 x1 h (k (zkX1_manOn_2 E X) (fun a0 x1 x2 h v => zsX1_manOn_2 C a0 x1 x2 h v)))
def vcX1_after_180 (E : Wd) (d : Nat) (a0 : Nat) (x1 : Int32) (x2 : Int32) (x3 : Int32) (x6 : Int32) (x7 : Int32) (s0 : Int32) (h : Hp) (Q : Int32 → Hp → Prop) : Prop :=
  isO h a0 1 ∧ OkV E YX1_put d [.ref a0, .int x1, .int x3] h (fun h1 => isO h1 a0 1 ∧ OkV E YX1_put d [.ref a0, .int x6, .int x2] h1 (fun h2 => okP h2 a0 1 4 ∧ ∀ h3, h3 = pF h2 a0 4 (.int x7) → Q s0 h3))
def vcX1_after_94 (E : Wd) (d : Nat) (a0 : Nat) (x1 : Int32) (x2 : Int32) (x3 : Int32) (x6 : Int32) (h : Hp) (Q : Int32 → Hp → Prop) : Prop :=
  okI h a0 1 4 ∧ okI h a0 1 4 ∧ okP h a0 1 4 ∧ ∀ h1, h1 = pF h a0 4 (.int (((fI h a0 4) &&& (((1 : Int32) <<< (x3 &&& 31)) ^^^ (-1 : Int32))) ||| ((1 : Int32) <<< (x2 &&& 31)))) → isO h1 a0 1 ∧ OkV E YX1_put d [.ref a0, .int x1, .int x2] h1 (fun h2 => okA h2 a0 1 0 ∧ okI h2 (fA h2 a0 0) 4 2 ∧ isO h2 a0 1 ∧ OkV E YX1_put d [.ref a0, .int x6, .int (fI h2 (fA h2 a0 0) 2)] h2 (fun h3 => okI h3 a0 1 3 ∧ isO h3 a0 1 ∧ OkI E YX1_isAttacked d [.ref a0, .int (fI h3 a0 3)] h3 (fun r5 h4 => (r5 = (0 : Int32) → okA h4 a0 1 0 ∧ isO h4 a0 1 ∧ OkI E YX1_placeOf d [.ref a0, .int 0] h4 (fun r7 h6 => isO h6 a0 1 ∧ OkI E YX1_placeOf d [.ref a0, .int 1] h6 (fun r9 h8 => isO h8 a0 1 ∧ OkI E YX1_placeOf d [.ref a0, .int 2] h8 (fun r11 h10 => okI h10 a0 1 3 ∧ isO h10 (fA h4 a0 0) 4 ∧ OkI E YX4_indexOf d [.ref (fA h4 a0 0), .int r7, .int r9, .int r11, .int ((1 : Int32) - (fI h10 a0 3))] h10 (fun r13 h12 => vcX1_after_180 E d a0 x1 x2 x3 x6 (fI h a0 4) r13 h12 Q))))) ∧ (¬ r5 = (0 : Int32) → vcX1_after_180 E d a0 x1 x2 x3 x6 (fI h a0 4) ((-1)) h4 Q))))
def vcX1_after_69 (E : Wd) (d : Nat) (a0 : Nat) (x1 : Int32) (x2 : Int32) (x3 : Int32) (s0 : Int32) (h : Hp) (Q : Int32 → Hp → Prop) : Prop :=
  (s0 < (0 : Int32) → vcX1_after_94 E d a0 x1 x2 x3 s0 h Q) ∧ (¬ s0 < (0 : Int32) → okA h a0 1 0 ∧ isO h (fA h a0 0) 4 ∧ OkI E YX4_sideOf d [.ref (fA h a0 0), .int s0] h (fun r2 h1 => okI h1 a0 1 3 ∧ (¬ r2 = (fI h1 a0 3) → vcX1_after_94 E d a0 x1 x2 x3 s0 h1 Q) ∧ (r2 = (fI h1 a0 3) → Q ((-1)) h1)))
def vcX1_after_22 (E : Wd) (d : Nat) (a0 : Nat) (x1 : Int32) (x2 : Int32) (x3 : Int32) (s0 : Int32) (h : Hp) (Q : Int32 → Hp → Prop) : Prop :=
  okA h a0 1 1 ∧ isO h (fA h a0 1) 2 ∧ OkI E YX2_wayOf d [.ref (fA h a0 1), .int x1, .int x3, .int x2, .int s0] h (fun r2 h1 => (r2 < (0 : Int32) → Q ((-1)) h1) ∧ (¬ r2 < (0 : Int32) → okI h1 a0 1 4 ∧ ((r2 &&& (fI h1 a0 4)) = (0 : Int32) → (s0 = (0 : Int32) → vcX1_after_69 E d a0 x1 x2 x3 ((-1)) h1 Q) ∧ (¬ s0 = (0 : Int32) → isO h1 a0 1 ∧ OkI E YX1_manOn d [.ref a0, .int x2] h1 (fun r4 h3 => vcX1_after_69 E d a0 x1 x2 x3 r4 h3 Q))) ∧ (¬ (r2 &&& (fI h1 a0 4)) = (0 : Int32) → Q ((-1)) h1)))
def vcX1_after_0 (E : Wd) (d : Nat) (a0 : Nat) (x1 : Int32) (x2 : Int32) (h : Hp) (Q : Int32 → Hp → Prop) : Prop :=
  isO h a0 1 ∧ OkI E YX1_placeOf d [.ref a0, .int x1] h (fun r2 h1 => okI h1 a0 1 4 ∧ ((((fI h1 a0 4) >>> (x2 &&& 31)) &&& (1 : Int32)) = (0 : Int32) → vcX1_after_22 E d a0 x1 x2 r2 0 h1 Q) ∧ (¬ (((fI h1 a0 4) >>> (x2 &&& 31)) &&& (1 : Int32)) = (0 : Int32) → vcX1_after_22 E d a0 x1 x2 r2 1 h1 Q))
set_option maxRecDepth 100000 in
set_option maxHeartbeats 4000000 in
theorem zsX1_after_180 {E : Wd} {X : Mx} {d : Nat} {Q : Int32 → Hp → Prop} (C : zz_C E X YX1_after (d + 1) 0 0 (fun r h' => ∃ x : Int32, r = some (.int x) ∧ Q x h')) (a0 : Nat) (x1 : Int32) (x2 : Int32) (x3 : Int32) (x6 : Int32) (x7 : Int32) (s0 : Int32) (h : Hp) (v : vcX1_after_180 E d a0 x1 x2 x3 x6 x7 s0 h Q) : GG E X 9 0 0 180 [some (.ref a0), some (.int x1), some (.int x2), some (.int x3), none, none, some (.int x6), some (.int x7), none] [.int s0] h := by
  refine zg_istore (q := 182) C dX1_after_180 (by decide) rfl ?_
  refine zg_aload_n (q := 183) C dX1_after_182 rfl rfl ?_
  refine zg_iload_n (q := 184) C dX1_after_183 rfl rfl ?_
  refine zg_iload_n (q := 185) C dX1_after_184 rfl rfl ?_
  refine zg_cV2V (q := 188) C mX1_put vX1_put lmX1_88 rfl (bX1).1 v.1 (Nat.le_of_ble_eq_true rfl) ⟨Nat.le_refl _, Nat.le_refl _⟩ dX1_after_185 rfl v.2 (fun h1 v => ?_)
  refine zg_aload_n (q := 189) C dX1_after_188 rfl rfl ?_
  refine zg_iload (q := 191) C dX1_after_189 rfl rfl ?_
  refine zg_iload_n (q := 192) C dX1_after_191 rfl rfl ?_
  refine zg_cV2V (q := 195) C mX1_put vX1_put lmX1_88 rfl (bX1).1 v.1 (Nat.le_of_ble_eq_true rfl) ⟨Nat.le_refl _, Nat.le_refl _⟩ dX1_after_192 rfl v.2 (fun h2 v => ?_)
  refine zg_aload_n (q := 196) C dX1_after_195 rfl rfl ?_
  refine zg_iload (q := 198) C dX1_after_196 rfl rfl ?_
  refine zg_put (j := 4) (q := 201) C bX1 (by decide) lkX1_32 dX1_after_198 rfl rfl v.1 rfl rfl ?_
  have v := v.2 _ rfl
  refine zg_iload (q := 203) C dX1_after_201 rfl rfl ?_
  exact zg_iret C rfl dX1_after_203 ⟨Nat.le_refl _, Nat.le_refl _⟩ ⟨_, rfl, v⟩
set_option maxRecDepth 100000 in
set_option maxHeartbeats 4000000 in
theorem zsX1_after_94 {E : Wd} {X : Mx} {d : Nat} {Q : Int32 → Hp → Prop} (C : zz_C E X YX1_after (d + 1) 0 0 (fun r h' => ∃ x : Int32, r = some (.int x) ∧ Q x h')) (a0 : Nat) (x1 : Int32) (x2 : Int32) (x3 : Int32) (x6 : Int32) (h : Hp) (v : vcX1_after_94 E d a0 x1 x2 x3 x6 h Q) : GG E X 9 0 0 94 [some (.ref a0), some (.int x1), some (.int x2), some (.int x3), none, none, some (.int x6), none, none] [] h := by
  refine zg_aload_n (q := 95) C dX1_after_94 rfl rfl ?_
  refine zg_get (j := 4) (q := 98) C bX1 (by decide) lkX1_32 dX1_after_95 rfl (okI.get v.1) ?_
  have v := v.2
  refine zg_istore (q := 100) C dX1_after_98 (by decide) rfl ?_
  refine zg_aload_n (q := 101) C dX1_after_100 rfl rfl ?_
  refine zg_aload_n (q := 102) C dX1_after_101 rfl rfl ?_
  refine zg_get (j := 4) (q := 105) C bX1 (by decide) lkX1_32 dX1_after_102 rfl (okI.get v.1) ?_
  have v := v.2
  refine zg_iconst (v := 1) (q := 106) C dX1_after_105 (by decide) rfl ?_
  refine zg_iload_n (q := 107) C dX1_after_106 rfl rfl ?_
  refine zg_ishl (q := 108) C dX1_after_107 rfl ?_
  refine zg_iconst (v := (-1)) (q := 109) C dX1_after_108 (by decide) rfl ?_
  refine zg_ixor (q := 110) C dX1_after_109 rfl ?_
  refine zg_iand (q := 111) C dX1_after_110 rfl ?_
  refine zg_iconst (v := 1) (q := 112) C dX1_after_111 (by decide) rfl ?_
  refine zg_iload_n (q := 113) C dX1_after_112 rfl rfl ?_
  refine zg_ishl (q := 114) C dX1_after_113 rfl ?_
  refine zg_ior (q := 115) C dX1_after_114 rfl ?_
  refine zg_put (j := 4) (q := 118) C bX1 (by decide) lkX1_32 dX1_after_115 rfl rfl v.1 rfl rfl ?_
  have v := v.2 _ rfl
  refine zg_aload_n (q := 119) C dX1_after_118 rfl rfl ?_
  refine zg_iload_n (q := 120) C dX1_after_119 rfl rfl ?_
  refine zg_iload_n (q := 121) C dX1_after_120 rfl rfl ?_
  refine zg_cV2V (q := 124) C mX1_put vX1_put lmX1_88 rfl (bX1).1 v.1 (Nat.le_of_ble_eq_true rfl) ⟨Nat.le_refl _, Nat.le_refl _⟩ dX1_after_121 rfl v.2 (fun h2 v => ?_)
  refine zg_aload_n (q := 125) C dX1_after_124 rfl rfl ?_
  refine zg_iload (q := 127) C dX1_after_125 rfl rfl ?_
  refine zg_aload_n (q := 128) C dX1_after_127 rfl rfl ?_
  refine zg_get (j := 0) (q := 131) C bX1 (by decide) lkX1_15 dX1_after_128 rfl (okA.get v.1) ?_
  have v := v.2
  refine zg_getN (j := 2) (q := 134) C bX4 (by decide) lkX1_41 dX1_after_131 rfl (okI.get v.1) ?_
  have v := v.2
  refine zg_cV2V (q := 137) C mX1_put vX1_put lmX1_88 rfl (bX1).1 v.1 (Nat.le_of_ble_eq_true rfl) ⟨Nat.le_refl _, Nat.le_refl _⟩ dX1_after_134 rfl v.2 (fun h3 v => ?_)
  refine zg_aload_n (q := 138) C dX1_after_137 rfl rfl ?_
  refine zg_aload_n (q := 139) C dX1_after_138 rfl rfl ?_
  refine zg_get (j := 3) (q := 142) C bX1 (by decide) lkX1_28 dX1_after_139 rfl (okI.get v.1) ?_
  have v := v.2
  refine zg_cV1I (q := 145) C mX1_isAttacked vX1_isAttacked lmX1_69 rfl (bX1).1 v.1 (Nat.le_of_ble_eq_true rfl) ⟨Nat.le_refl _, Nat.le_refl _⟩ dX1_after_142 rfl v.2 (fun r5 h4 v => ?_)
  refine zg_if_eq (t := 152) (q := 148) C dX1_after_145 (by decide) rfl (fun c => ?_) (fun c => ?_)
  · have v := v.1 c
    refine zg_aload_n (q := 153) C dX1_after_152 rfl rfl ?_
    refine zg_get (j := 0) (q := 156) C bX1 (by decide) lkX1_15 dX1_after_153 rfl (okA.get v.1) ?_
    have v := v.2
    refine zg_aload_n (q := 157) C dX1_after_156 rfl rfl ?_
    refine zg_iconst (v := 0) (q := 158) C dX1_after_157 (by decide) rfl ?_
    refine zg_cV1I (q := 161) C mX1_placeOf vX1_placeOf lmX1_44 rfl (bX1).1 v.1 (Nat.le_of_ble_eq_true rfl) ⟨Nat.le_refl _, Nat.le_refl _⟩ dX1_after_158 rfl v.2 (fun r7 h6 v => ?_)
    refine zg_aload_n (q := 162) C dX1_after_161 rfl rfl ?_
    refine zg_iconst (v := 1) (q := 163) C dX1_after_162 (by decide) rfl ?_
    refine zg_cV1I (q := 166) C mX1_placeOf vX1_placeOf lmX1_44 rfl (bX1).1 v.1 (Nat.le_of_ble_eq_true rfl) ⟨Nat.le_refl _, Nat.le_refl _⟩ dX1_after_163 rfl v.2 (fun r9 h8 v => ?_)
    refine zg_aload_n (q := 167) C dX1_after_166 rfl rfl ?_
    refine zg_iconst (v := 2) (q := 168) C dX1_after_167 (by decide) rfl ?_
    refine zg_cV1I (q := 171) C mX1_placeOf vX1_placeOf lmX1_44 rfl (bX1).1 v.1 (Nat.le_of_ble_eq_true rfl) ⟨Nat.le_refl _, Nat.le_refl _⟩ dX1_after_168 rfl v.2 (fun r11 h10 v => ?_)
    refine zg_iconst (v := 1) (q := 172) C dX1_after_171 (by decide) rfl ?_
    refine zg_aload_n (q := 173) C dX1_after_172 rfl rfl ?_
    refine zg_get (j := 3) (q := 176) C bX1 (by decide) lkX1_28 dX1_after_173 rfl (okI.get v.1) ?_
    have v := v.2
    refine zg_isub (q := 177) C dX1_after_176 rfl ?_
    refine zg_cV4I (q := 180) C mX4_indexOf vX4_indexOf lmX1_92 rfl (bX4).1 v.1 (Nat.le_of_ble_eq_true rfl) ⟨Nat.le_refl _, Nat.le_refl _⟩ dX1_after_177 rfl v.2 (fun r13 h12 v => ?_)
    exact zg_mask [true, true, true, true, false, false, true, true, false] (zsX1_after_180 C _ _ _ _ _ _ _ _ v)
  · have v := v.2 c
    refine zg_iconst (v := (-1)) (q := 149) C dX1_after_148 (by decide) rfl ?_
    refine zg_goto (t := 180) C dX1_after_149 (by decide) ?_
    exact zg_mask [true, true, true, true, false, false, true, true, false] (zsX1_after_180 C _ _ _ _ _ _ _ _ v)
set_option maxRecDepth 100000 in
set_option maxHeartbeats 4000000 in
theorem zsX1_after_69 {E : Wd} {X : Mx} {d : Nat} {Q : Int32 → Hp → Prop} (C : zz_C E X YX1_after (d + 1) 0 0 (fun r h' => ∃ x : Int32, r = some (.int x) ∧ Q x h')) (a0 : Nat) (x1 : Int32) (x2 : Int32) (x3 : Int32) (s0 : Int32) (h : Hp) (v : vcX1_after_69 E d a0 x1 x2 x3 s0 h Q) : GG E X 9 0 0 69 [some (.ref a0), some (.int x1), some (.int x2), some (.int x3), none, none, none, none, none] [.int s0] h := by
  refine zg_istore (q := 71) C dX1_after_69 (by decide) rfl ?_
  refine zg_iload (q := 73) C dX1_after_71 rfl rfl ?_
  refine zg_if_lt (t := 94) (q := 76) C dX1_after_73 (by decide) rfl (fun c => ?_) (fun c => ?_)
  · have v := v.1 c
    exact zg_mask [true, true, true, true, false, false, true, false, false] (zsX1_after_94 C _ _ _ _ _ _ v)
  · have v := v.2 c
    refine zg_aload_n (q := 77) C dX1_after_76 rfl rfl ?_
    refine zg_get (j := 0) (q := 80) C bX1 (by decide) lkX1_15 dX1_after_77 rfl (okA.get v.1) ?_
    have v := v.2
    refine zg_iload (q := 82) C dX1_after_80 rfl rfl ?_
    refine zg_cV1I (q := 85) C mX4_sideOf vX4_sideOf lmX1_85 rfl (bX4).1 v.1 (Nat.le_of_ble_eq_true rfl) ⟨Nat.le_refl _, Nat.le_refl _⟩ dX1_after_82 rfl v.2 (fun r2 h1 v => ?_)
    refine zg_aload_n (q := 86) C dX1_after_85 rfl rfl ?_
    refine zg_get (j := 3) (q := 89) C bX1 (by decide) lkX1_28 dX1_after_86 rfl (okI.get v.1) ?_
    have v := v.2
    refine zg_icmp_ne (t := 94) (q := 92) C dX1_after_89 (by decide) rfl (fun c => ?_) (fun c => ?_)
    · have v := v.1 c
      exact zg_mask [true, true, true, true, false, false, true, false, false] (zsX1_after_94 C _ _ _ _ _ _ v)
    · have v := v.2 c
      refine zg_iconst (v := (-1)) (q := 93) C dX1_after_92 (by decide) rfl ?_
      exact zg_iret C rfl dX1_after_93 ⟨Nat.le_refl _, Nat.le_refl _⟩ ⟨_, rfl, v⟩
set_option maxRecDepth 100000 in
set_option maxHeartbeats 4000000 in
theorem zsX1_after_22 {E : Wd} {X : Mx} {d : Nat} {Q : Int32 → Hp → Prop} (C : zz_C E X YX1_after (d + 1) 0 0 (fun r h' => ∃ x : Int32, r = some (.int x) ∧ Q x h')) (a0 : Nat) (x1 : Int32) (x2 : Int32) (x3 : Int32) (s0 : Int32) (h : Hp) (v : vcX1_after_22 E d a0 x1 x2 x3 s0 h Q) : GG E X 9 0 0 22 [some (.ref a0), some (.int x1), some (.int x2), some (.int x3), none, none, none, none, none] [.int s0] h := by
  refine zg_istore (q := 24) C dX1_after_22 (by decide) rfl ?_
  refine zg_aload_n (q := 25) C dX1_after_24 rfl rfl ?_
  refine zg_get (j := 1) (q := 28) C bX1 (by decide) lkX1_24 dX1_after_25 rfl (okA.get v.1) ?_
  have v := v.2
  refine zg_iload_n (q := 29) C dX1_after_28 rfl rfl ?_
  refine zg_iload_n (q := 30) C dX1_after_29 rfl rfl ?_
  refine zg_iload_n (q := 31) C dX1_after_30 rfl rfl ?_
  refine zg_iload (q := 33) C dX1_after_31 rfl rfl ?_
  refine zg_cV4I (q := 36) C mX2_wayOf vX2_wayOf lmX1_78 rfl (bX2).1 v.1 (Nat.le_of_ble_eq_true rfl) ⟨Nat.le_refl _, Nat.le_refl _⟩ dX1_after_33 rfl v.2 (fun r2 h1 v => ?_)
  refine zg_istore (q := 38) C dX1_after_36 (by decide) rfl ?_
  refine zg_iload (q := 40) C dX1_after_38 rfl rfl ?_
  refine zg_if_lt (t := 53) (q := 43) C dX1_after_40 (by decide) rfl (fun c => ?_) (fun c => ?_)
  · have v := v.1 c
    refine zg_iconst (v := (-1)) (q := 54) C dX1_after_53 (by decide) rfl ?_
    exact zg_iret C rfl dX1_after_54 ⟨Nat.le_refl _, Nat.le_refl _⟩ ⟨_, rfl, v⟩
  · have v := v.2 c
    refine zg_iload (q := 45) C dX1_after_43 rfl rfl ?_
    refine zg_aload_n (q := 46) C dX1_after_45 rfl rfl ?_
    refine zg_get (j := 4) (q := 49) C bX1 (by decide) lkX1_32 dX1_after_46 rfl (okI.get v.1) ?_
    have v := v.2
    refine zg_iand (q := 50) C dX1_after_49 rfl ?_
    refine zg_if_eq (t := 55) (q := 53) C dX1_after_50 (by decide) rfl (fun c => ?_) (fun c => ?_)
    · have v := v.1 c
      refine zg_iload (q := 57) C dX1_after_55 rfl rfl ?_
      refine zg_if_eq (t := 68) (q := 60) C dX1_after_57 (by decide) rfl (fun c => ?_) (fun c => ?_)
      · have v := v.1 c
        refine zg_iconst (v := (-1)) (q := 69) C dX1_after_68 (by decide) rfl ?_
        exact zg_mask [true, true, true, true, false, false, false, false, false] (zsX1_after_69 C _ _ _ _ _ _ v)
      · have v := v.2 c
        refine zg_aload_n (q := 61) C dX1_after_60 rfl rfl ?_
        refine zg_iload_n (q := 62) C dX1_after_61 rfl rfl ?_
        refine zg_cV1I (q := 65) C mX1_manOn vX1_manOn lmX1_82 rfl (bX1).1 v.1 (Nat.le_of_ble_eq_true rfl) ⟨Nat.le_refl _, Nat.le_refl _⟩ dX1_after_62 rfl v.2 (fun r4 h3 v => ?_)
        refine zg_goto (t := 69) C dX1_after_65 (by decide) ?_
        exact zg_mask [true, true, true, true, false, false, false, false, false] (zsX1_after_69 C _ _ _ _ _ _ v)
    · have v := v.2 c
      refine zg_iconst (v := (-1)) (q := 54) C dX1_after_53 (by decide) rfl ?_
      exact zg_iret C rfl dX1_after_54 ⟨Nat.le_refl _, Nat.le_refl _⟩ ⟨_, rfl, v⟩
set_option maxRecDepth 100000 in
set_option maxHeartbeats 4000000 in
theorem zsX1_after_0 {E : Wd} {X : Mx} {d : Nat} {Q : Int32 → Hp → Prop} (C : zz_C E X YX1_after (d + 1) 0 0 (fun r h' => ∃ x : Int32, r = some (.int x) ∧ Q x h')) (a0 : Nat) (x1 : Int32) (x2 : Int32) (h : Hp) (v : vcX1_after_0 E d a0 x1 x2 h Q) : GG E X 9 0 0 0 [some (.ref a0), some (.int x1), some (.int x2), none, none, none, none, none, none] [] h := by
  refine zg_aload_n (q := 1) C dX1_after_0 rfl rfl ?_
  refine zg_iload_n (q := 2) C dX1_after_1 rfl rfl ?_
  refine zg_cV1I (q := 5) C mX1_placeOf vX1_placeOf lmX1_44 rfl (bX1).1 v.1 (Nat.le_of_ble_eq_true rfl) ⟨Nat.le_refl _, Nat.le_refl _⟩ dX1_after_2 rfl v.2 (fun r2 h1 v => ?_)
  refine zg_istore_n (q := 6) C dX1_after_5 (by decide) rfl ?_
  refine zg_aload_n (q := 7) C dX1_after_6 rfl rfl ?_
  refine zg_get (j := 4) (q := 10) C bX1 (by decide) lkX1_32 dX1_after_7 rfl (okI.get v.1) ?_
  have v := v.2
  refine zg_iload_n (q := 11) C dX1_after_10 rfl rfl ?_
  refine zg_ishr (q := 12) C dX1_after_11 rfl ?_
  refine zg_iconst (v := 1) (q := 13) C dX1_after_12 (by decide) rfl ?_
  refine zg_iand (q := 14) C dX1_after_13 rfl ?_
  refine zg_if_eq (t := 21) (q := 17) C dX1_after_14 (by decide) rfl (fun c => ?_) (fun c => ?_)
  · have v := v.1 c
    refine zg_iconst (v := 0) (q := 22) C dX1_after_21 (by decide) rfl ?_
    exact zg_mask [true, true, true, true, false, false, false, false, false] (zsX1_after_22 C _ _ _ _ _ _ v)
  · have v := v.2 c
    refine zg_iconst (v := 1) (q := 18) C dX1_after_17 (by decide) rfl ?_
    refine zg_goto (t := 22) C dX1_after_18 (by decide) ?_
    exact zg_mask [true, true, true, true, false, false, false, false, false] (zsX1_after_22 C _ _ _ _ _ _ v)
theorem rnX1_after {E : Wd} {d : Nat} {a0 : Nat} {x1 : Int32} {x2 : Int32} {h : Hp} {Q : Int32 → Hp → Prop} (k : vcX1_after_0 E d a0 x1 x2 h Q) : OkI E YX1_after (d + 1) [.ref a0, .int x1, .int x2] h Q :=
  zz_body2 (r := 6) mX1_after (zc_a (zc_i (zc_i zc_n))) (Nat.le_of_ble_eq_true rfl) (fun X C => zsX1_after_0 C a0 x1 x2 h k)
def vcX1_put_0 (E : Wd) (d : Nat) (a0 : Nat) (x1 : Int32) (x2 : Int32) (h : Hp) (Q : Hp → Prop) : Prop :=
  (x1 < (0 : Int32) → Q h) ∧ (¬ x1 < (0 : Int32) → okA h a0 1 2 ∧ okL E h (fA h a0 2) 0 ∧ ((lA h (fA h a0 2)) ≤ x1 → Q h) ∧ (¬ (lA h (fA h a0 2)) ≤ x1 → okA h a0 1 2 ∧ okR E h (fA h a0 2) 0 x1 ∧ ∀ h1, h1 = sA h (fA h a0 2) x1 x2 → Q h1))
set_option maxRecDepth 100000 in
set_option maxHeartbeats 4000000 in
theorem zsX1_put_0 {E : Wd} {X : Mx} {d : Nat} {Q : Hp → Prop} (C : zz_C E X YX1_put d 0 0 (fun r h' => r = none ∧ Q h')) (a0 : Nat) (x1 : Int32) (x2 : Int32) (h : Hp) (v : vcX1_put_0 E d a0 x1 x2 h Q) : GG E X 3 0 0 0 [some (.ref a0), some (.int x1), some (.int x2)] [] h := by
  refine zg_iload_n (q := 1) C dX1_put_0 rfl rfl ?_
  refine zg_if_lt (t := 20) (q := 4) C dX1_put_1 (by decide) rfl (fun c => ?_) (fun c => ?_)
  · have v := v.1 c
    exact zg_vret C rfl dX1_put_20 ⟨Nat.le_refl _, Nat.le_refl _⟩ ⟨rfl, v⟩
  · have v := v.2 c
    refine zg_iload_n (q := 5) C dX1_put_4 rfl rfl ?_
    refine zg_aload_n (q := 6) C dX1_put_5 rfl rfl ?_
    refine zg_get (j := 2) (q := 9) C bX1 (by decide) lkX1_9 dX1_put_6 rfl (okA.get v.1) ?_
    have v := v.2
    refine zg_alen (t := 0) (q := 10) C (by decide) dX1_put_9 rfl v.1 ?_
    have v := v.2
    refine zg_icmp_ge (t := 20) (q := 13) C dX1_put_10 (by decide) rfl (fun c => ?_) (fun c => ?_)
    · have v := v.1 c
      exact zg_vret C rfl dX1_put_20 ⟨Nat.le_refl _, Nat.le_refl _⟩ ⟨rfl, v⟩
    · have v := v.2 c
      refine zg_aload_n (q := 14) C dX1_put_13 rfl rfl ?_
      refine zg_get (j := 2) (q := 17) C bX1 (by decide) lkX1_9 dX1_put_14 rfl (okA.get v.1) ?_
      have v := v.2
      refine zg_iload_n (q := 18) C dX1_put_17 rfl rfl ?_
      refine zg_iload_n (q := 19) C dX1_put_18 rfl rfl ?_
      refine zg_iast (q := 20) C dX1_put_19 rfl v.1 ?_
      have v := v.2 _ rfl
      exact zg_vret C rfl dX1_put_20 ⟨Nat.le_refl _, Nat.le_refl _⟩ ⟨rfl, v⟩
theorem rnX1_put {E : Wd} {d : Nat} {a0 : Nat} {x1 : Int32} {x2 : Int32} {h : Hp} {Q : Hp → Prop} (k : vcX1_put_0 E d a0 x1 x2 h Q) : OkV E YX1_put d [.ref a0, .int x1, .int x2] h Q :=
  zz_body2 (r := 0) mX1_put (zc_a (zc_i (zc_i zc_n))) (Nat.le_of_ble_eq_true rfl) (fun X C => zsX1_put_0 C a0 x1 x2 h k)
