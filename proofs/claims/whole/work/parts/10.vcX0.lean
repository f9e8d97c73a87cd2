def vcX0_init_0 (E : Wd) (d : Nat) (mc ms : Nat) (a0 : Nat) (h : Hp) (Q : Hp → Prop) : Prop :=
  (1 ≤ mc ∧ 41 ≤ ms) ∧ ∀ h1, h1 = nA E h 0 41 → okP h1 a0 0 0 ∧ ∀ h3, h3 = pF h1 a0 0 (.ref (h.1)) → Q h3
set_option maxRecDepth 100000 in
set_option maxHeartbeats 4000000 in
theorem zsX0_init_0 {E : Wd} {X : Mx} {d mc ms : Nat} {Q : Hp → Prop} (C : zz_C E X YX0_init (d + 1) mc ms (fun r h' => r = none ∧ Q h')) (a0 : Nat) (h : Hp) (v : vcX0_init_0 E d mc ms a0 h Q) : GG E X 1 0 0 0 [some (.ref a0)] [] h := by
  refine zg_aload_n (q := 1) C dX0_init_0 rfl rfl ?_
  refine zg_objInit (q := 4) C oiX0 rfl (Nat.le_add_left _ _) (Nat.le_of_ble_eq_true rfl) dX0_init_1 rfl ?_
  refine zg_aload_n (q := 5) C dX0_init_4 rfl rfl ?_
  refine zg_bipush (v := 41) (q := 7) C dX0_init_5 (by decide) rfl ?_
  refine zg_newI (m := 41) (q := 9) C ar0 dX0_init_7 rfl (by decide) (by decide) (by decide) v.1 ?_
  have c2 := v.1
  have v := v.2 _ rfl
  refine zg_putF (j := 0) (q := 12) C bX0 (by decide) lkX0_9 dX0_init_9 rfl rfl rfl rfl v.1 rfl rfl ?_
  have v := v.2 _ rfl
  exact zg_vret C rfl dX0_init_12 c2 ⟨rfl, v⟩
theorem rnX0_init {E : Wd} {d mc ms : Nat} {a0 : Nat} {h : Hp} {Q : Hp → Prop} (k : vcX0_init_0 E d mc ms a0 h Q) : OkW E YX0_init (d + 1) mc ms [.ref a0] h Q :=
  zz_body2 (r := 0) mX0_init (zc_a zc_n) (Nat.le_of_ble_eq_true rfl) (fun X C => zsX0_init_0 C a0 h k)
def vcX0_clear_0 (E : Wd) (d : Nat) (a0 : Nat) (h : Hp) (Q : Hp → Prop) : Prop :=
  okP h a0 0 1 ∧ ∀ h1, h1 = pF h a0 1 (.int 0) → Q h1
set_option maxRecDepth 100000 in
set_option maxHeartbeats 4000000 in
theorem zsX0_clear_0 {E : Wd} {X : Mx} {d : Nat} {Q : Hp → Prop} (C : zz_C E X YX0_clear d 0 0 (fun r h' => r = none ∧ Q h')) (a0 : Nat) (h : Hp) (v : vcX0_clear_0 E d a0 h Q) : GG E X 1 0 0 0 [some (.ref a0)] [] h := by
  refine zg_aload_n (q := 1) C dX0_clear_0 rfl rfl ?_
  refine zg_iconst (v := 0) (q := 2) C dX0_clear_1 (by decide) rfl ?_
  refine zg_put (j := 1) (q := 5) C bX0 (by decide) lkX0_15 dX0_clear_2 rfl rfl v.1 rfl rfl ?_
  have v := v.2 _ rfl
  exact zg_vret C rfl dX0_clear_5 ⟨Nat.le_refl _, Nat.le_refl _⟩ ⟨rfl, v⟩
theorem rnX0_clear {E : Wd} {d : Nat} {a0 : Nat} {h : Hp} {Q : Hp → Prop} (k : vcX0_clear_0 E d a0 h Q) : OkV E YX0_clear d [.ref a0] h Q :=
  zz_body2 (r := 0) mX0_clear (zc_a zc_n) (Nat.le_of_ble_eq_true rfl) (fun X C => zsX0_clear_0 C a0 h k)
def vcX0_begin_0 (E : Wd) (d : Nat) (a0 : Nat) (x1 : Int32) (h : Hp) (Q : Hp → Prop) : Prop :=
  okP h a0 0 1 ∧ ∀ h1, h1 = pF h a0 1 (.int 0) → isO h1 a0 0 ∧ OkV E YX0_add d [.ref a0, .int x1] h1 (fun h2 => Q h2)
set_option maxRecDepth 100000 in
set_option maxHeartbeats 4000000 in
theorem zsX0_begin_0 {E : Wd} {X : Mx} {d : Nat} {Q : Hp → Prop} (C : zz_C E X YX0_begin (d + 1) 0 0 (fun r h' => r = none ∧ Q h')) (a0 : Nat) (x1 : Int32) (h : Hp) (v : vcX0_begin_0 E d a0 x1 h Q) : GG E X 2 0 0 0 [some (.ref a0), some (.int x1)] [] h := by
  refine zg_aload_n (q := 1) C dX0_begin_0 rfl rfl ?_
  refine zg_iconst (v := 0) (q := 2) C dX0_begin_1 (by decide) rfl ?_
  refine zg_put (j := 1) (q := 5) C bX0 (by decide) lkX0_15 dX0_begin_2 rfl rfl v.1 rfl rfl ?_
  have v := v.2 _ rfl
  refine zg_aload_n (q := 6) C dX0_begin_5 rfl rfl ?_
  refine zg_iload_n (q := 7) C dX0_begin_6 rfl rfl ?_
  refine zg_cV1V (q := 10) C mX0_add vX0_add lmX0_19 rfl (bX0).1 v.1 (Nat.le_of_ble_eq_true rfl) ⟨Nat.le_refl _, Nat.le_refl _⟩ dX0_begin_7 rfl v.2 (fun h2 v => ?_)
  exact zg_vret C rfl dX0_begin_10 ⟨Nat.le_refl _, Nat.le_refl _⟩ ⟨rfl, v⟩
theorem rnX0_begin {E : Wd} {d : Nat} {a0 : Nat} {x1 : Int32} {h : Hp} {Q : Hp → Prop} (k : vcX0_begin_0 E d a0 x1 h Q) : OkV E YX0_begin (d + 1) [.ref a0, .int x1] h Q :=
  zz_body2 (r := 0) mX0_begin (zc_a (zc_i zc_n)) (Nat.le_of_ble_eq_true rfl) (fun X C => zsX0_begin_0 C a0 x1 h k)
def vcX0_add_0 (E : Wd) (d : Nat) (a0 : Nat) (x1 : Int32) (h : Hp) (Q : Hp → Prop) : Prop :=
  okI h a0 0 1 ∧ ((fI h a0 1) < (0 : Int32) → Q h) ∧ (¬ (fI h a0 1) < (0 : Int32) → okI h a0 0 1 ∧ okA h a0 0 0 ∧ okL E h (fA h a0 0) 0 ∧ ((fI h a0 1) < (lA h (fA h a0 0)) → okA h a0 0 0 ∧ okI h a0 0 1 ∧ okR E h (fA h a0 0) 0 (fI h a0 1) ∧ ∀ h1, h1 = sA h (fA h a0 0) (fI h a0 1) x1 → okI h1 a0 0 1 ∧ okP h1 a0 0 1 ∧ ∀ h2, h2 = pF h1 a0 1 (.int ((fI h1 a0 1) + (1 : Int32))) → Q h2) ∧ (¬ (fI h a0 1) < (lA h (fA h a0 0)) → Q h))
set_option maxRecDepth 100000 in
set_option maxHeartbeats 4000000 in
theorem zsX0_add_0 {E : Wd} {X : Mx} {d : Nat} {Q : Hp → Prop} (C : zz_C E X YX0_add d 0 0 (fun r h' => r = none ∧ Q h')) (a0 : Nat) (x1 : Int32) (h : Hp) (v : vcX0_add_0 E d a0 x1 h Q) : GG E X 2 0 0 0 [some (.ref a0), some (.int x1)] [] h := by
  refine zg_aload_n (q := 1) C dX0_add_0 rfl rfl ?_
  refine zg_get (j := 1) (q := 4) C bX0 (by decide) lkX0_15 dX0_add_1 rfl (okI.get v.1) ?_
  have v := v.2
  refine zg_if_lt (t := 19) (q := 7) C dX0_add_4 (by decide) rfl (fun c => ?_) (fun c => ?_)
  · have v := v.1 c
    exact zg_vret C rfl dX0_add_19 ⟨Nat.le_refl _, Nat.le_refl _⟩ ⟨rfl, v⟩
  · have v := v.2 c
    refine zg_aload_n (q := 8) C dX0_add_7 rfl rfl ?_
    refine zg_get (j := 1) (q := 11) C bX0 (by decide) lkX0_15 dX0_add_8 rfl (okI.get v.1) ?_
    have v := v.2
    refine zg_aload_n (q := 12) C dX0_add_11 rfl rfl ?_
    refine zg_get (j := 0) (q := 15) C bX0 (by decide) lkX0_9 dX0_add_12 rfl (okA.get v.1) ?_
    have v := v.2
    refine zg_alen (t := 0) (q := 16) C (by decide) dX0_add_15 rfl v.1 ?_
    have v := v.2
    refine zg_icmp_lt (t := 20) (q := 19) C dX0_add_16 (by decide) rfl (fun c => ?_) (fun c => ?_)
    · have v := v.1 c
      refine zg_aload_n (q := 21) C dX0_add_20 rfl rfl ?_
      refine zg_get (j := 0) (q := 24) C bX0 (by decide) lkX0_9 dX0_add_21 rfl (okA.get v.1) ?_
      have v := v.2
      refine zg_aload_n (q := 25) C dX0_add_24 rfl rfl ?_
      refine zg_get (j := 1) (q := 28) C bX0 (by decide) lkX0_15 dX0_add_25 rfl (okI.get v.1) ?_
      have v := v.2
      refine zg_iload_n (q := 29) C dX0_add_28 rfl rfl ?_
      refine zg_iast (q := 30) C dX0_add_29 rfl v.1 ?_
      have v := v.2 _ rfl
      refine zg_aload_n (q := 31) C dX0_add_30 rfl rfl ?_
      refine zg_dup (q := 32) C dX0_add_31 rfl rfl ?_
      refine zg_get (j := 1) (q := 35) C bX0 (by decide) lkX0_15 dX0_add_32 rfl (okI.get v.1) ?_
      have v := v.2
      refine zg_iconst (v := 1) (q := 36) C dX0_add_35 (by decide) rfl ?_
      refine zg_iadd (q := 37) C dX0_add_36 rfl ?_
      refine zg_put (j := 1) (q := 40) C bX0 (by decide) lkX0_15 dX0_add_37 rfl rfl v.1 rfl rfl ?_
      have v := v.2 _ rfl
      exact zg_vret C rfl dX0_add_40 ⟨Nat.le_refl _, Nat.le_refl _⟩ ⟨rfl, v⟩
    · have v := v.2 c
      exact zg_vret C rfl dX0_add_19 ⟨Nat.le_refl _, Nat.le_refl _⟩ ⟨rfl, v⟩
theorem rnX0_add {E : Wd} {d : Nat} {a0 : Nat} {x1 : Int32} {h : Hp} {Q : Hp → Prop} (k : vcX0_add_0 E d a0 x1 h Q) : OkV E YX0_add d [.ref a0, .int x1] h Q :=
  zz_body2 (r := 0) mX0_add (zc_a (zc_i zc_n)) (Nat.le_of_ble_eq_true rfl) (fun X C => zsX0_add_0 C a0 x1 h k)
def vcX0_removeLast_0 (E : Wd) (d : Nat) (a0 : Nat) (h : Hp) (Q : Hp → Prop) : Prop :=
  okI h a0 0 1 ∧ ((fI h a0 1) ≤ (0 : Int32) → Q h) ∧ (¬ (fI h a0 1) ≤ (0 : Int32) → okI h a0 0 1 ∧ okP h a0 0 1 ∧ ∀ h1, h1 = pF h a0 1 (.int ((fI h a0 1) - (1 : Int32))) → Q h1)
set_option maxRecDepth 100000 in
set_option maxHeartbeats 4000000 in
theorem zsX0_removeLast_0 {E : Wd} {X : Mx} {d : Nat} {Q : Hp → Prop} (C : zz_C E X YX0_removeLast d 0 0 (fun r h' => r = none ∧ Q h')) (a0 : Nat) (h : Hp) (v : vcX0_removeLast_0 E d a0 h Q) : GG E X 1 0 0 0 [some (.ref a0)] [] h := by
  refine zg_aload_n (q := 1) C dX0_removeLast_0 rfl rfl ?_
  refine zg_get (j := 1) (q := 4) C bX0 (by decide) lkX0_15 dX0_removeLast_1 rfl (okI.get v.1) ?_
  have v := v.2
  refine zg_if_le (t := 17) (q := 7) C dX0_removeLast_4 (by decide) rfl (fun c => ?_) (fun c => ?_)
  · have v := v.1 c
    exact zg_vret C rfl dX0_removeLast_17 ⟨Nat.le_refl _, Nat.le_refl _⟩ ⟨rfl, v⟩
  · have v := v.2 c
    refine zg_aload_n (q := 8) C dX0_removeLast_7 rfl rfl ?_
    refine zg_dup (q := 9) C dX0_removeLast_8 rfl rfl ?_
    refine zg_get (j := 1) (q := 12) C bX0 (by decide) lkX0_15 dX0_removeLast_9 rfl (okI.get v.1) ?_
    have v := v.2
    refine zg_iconst (v := 1) (q := 13) C dX0_removeLast_12 (by decide) rfl ?_
    refine zg_isub (q := 14) C dX0_removeLast_13 rfl ?_
    refine zg_put (j := 1) (q := 17) C bX0 (by decide) lkX0_15 dX0_removeLast_14 rfl rfl v.1 rfl rfl ?_
    have v := v.2 _ rfl
    exact zg_vret C rfl dX0_removeLast_17 ⟨Nat.le_refl _, Nat.le_refl _⟩ ⟨rfl, v⟩
theorem rnX0_removeLast {E : Wd} {d : Nat} {a0 : Nat} {h : Hp} {Q : Hp → Prop} (k : vcX0_removeLast_0 E d a0 h Q) : OkV E YX0_removeLast d [.ref a0] h Q :=
  zz_body2 (r := 0) mX0_removeLast (zc_a zc_n) (Nat.le_of_ble_eq_true rfl) (fun X C => zsX0_removeLast_0 C a0 h k)
def vcX0_copy_0 (E : Wd) (d : Nat) (a0 : Nat) (a1 : Nat) (h : Hp) (Q : Hp → Prop) : Prop :=
  okA h a1 0 0 ∧ okA h a0 0 0 ∧ okA h a0 0 0 ∧ okL E h (fA h a0 0) 0 ∧ okC E h (fA h a1 0) 0 (fA h a0 0) 0 (lA h (fA h a0 0)) ∧ ∀ h1, h1 = cA h (fA h a1 0) 0 (fA h a0 0) 0 (lA h (fA h a0 0)) → okI h1 a1 0 1 ∧ okP h1 a0 0 1 ∧ ∀ h2, h2 = pF h1 a0 1 (.int (fI h1 a1 1)) → Q h2
set_option maxRecDepth 100000 in
set_option maxHeartbeats 4000000 in
theorem zsX0_copy_0 {E : Wd} {X : Mx} {d : Nat} {Q : Hp → Prop} (C : zz_C E X YX0_copy (d + 1) 0 0 (fun r h' => r = none ∧ Q h')) (a0 : Nat) (a1 : Nat) (h : Hp) (v : vcX0_copy_0 E d a0 a1 h Q) : GG E X 2 0 0 0 [some (.ref a0), some (.ref a1)] [] h := by
  refine zg_aload_n (q := 1) C dX0_copy_0 rfl rfl ?_
  refine zg_get (j := 0) (q := 4) C bX0 (by decide) lkX0_9 dX0_copy_1 rfl (okA.get v.1) ?_
  have v := v.2
  refine zg_iconst (v := 0) (q := 5) C dX0_copy_4 (by decide) rfl ?_
  refine zg_aload_n (q := 6) C dX0_copy_5 rfl rfl ?_
  refine zg_get (j := 0) (q := 9) C bX0 (by decide) lkX0_9 dX0_copy_6 rfl (okA.get v.1) ?_
  have v := v.2
  refine zg_iconst (v := 0) (q := 10) C dX0_copy_9 (by decide) rfl ?_
  refine zg_aload_n (q := 11) C dX0_copy_10 rfl rfl ?_
  refine zg_get (j := 0) (q := 14) C bX0 (by decide) lkX0_9 dX0_copy_11 rfl (okA.get v.1) ?_
  have v := v.2
  refine zg_alen (t := 0) (q := 15) C (by decide) dX0_copy_14 rfl v.1 ?_
  have v := v.2
  refine zg_copy (q := 18) C maX0_23 rfl (Nat.le_add_left _ _) (Nat.le_of_ble_eq_true rfl) dX0_copy_15 rfl v.1 ?_
  have v := v.2 _ rfl
  refine zg_aload_n (q := 19) C dX0_copy_18 rfl rfl ?_
  refine zg_aload_n (q := 20) C dX0_copy_19 rfl rfl ?_
  refine zg_get (j := 1) (q := 23) C bX0 (by decide) lkX0_15 dX0_copy_20 rfl (okI.get v.1) ?_
  have v := v.2
  refine zg_put (j := 1) (q := 26) C bX0 (by decide) lkX0_15 dX0_copy_23 rfl rfl v.1 rfl rfl ?_
  have v := v.2 _ rfl
  exact zg_vret C rfl dX0_copy_26 ⟨Nat.le_refl _, Nat.le_refl _⟩ ⟨rfl, v⟩
theorem rnX0_copy {E : Wd} {d : Nat} {a0 : Nat} {a1 : Nat} {h : Hp} {Q : Hp → Prop} (k : vcX0_copy_0 E d a0 a1 h Q) : OkV E YX0_copy (d + 1) [.ref a0, .ref a1] h Q :=
  zz_body2 (r := 0) mX0_copy (zc_a (zc_a zc_n)) (Nat.le_of_ble_eq_true rfl) (fun X C => zsX0_copy_0 C a0 a1 h k)
def vcX0_hasPosition_0 (E : Wd) (d : Nat) (a0 : Nat) (h : Hp) (Q : Int32 → Hp → Prop) : Prop :=
  okI h a0 0 1 ∧ ((fI h a0 1) ≤ (0 : Int32) → mB 0 ∧ Q 0 h) ∧ (¬ (fI h a0 1) ≤ (0 : Int32) → mB 1 ∧ Q 1 h)
set_option maxRecDepth 100000 in
set_option maxHeartbeats 4000000 in
theorem zsX0_hasPosition_0 {E : Wd} {X : Mx} {d : Nat} {Q : Int32 → Hp → Prop} (C : zz_C E X YX0_hasPosition d 0 0 (fun r h' => ∃ x : Int32, r = some (.int x) ∧ Q x h')) (a0 : Nat) (h : Hp) (v : vcX0_hasPosition_0 E d a0 h Q) : GG E X 1 0 0 0 [some (.ref a0)] [] h := by
  refine zg_aload_n (q := 1) C dX0_hasPosition_0 rfl rfl ?_
  refine zg_get (j := 1) (q := 4) C bX0 (by decide) lkX0_15 dX0_hasPosition_1 rfl (okI.get v.1) ?_
  have v := v.2
  refine zg_if_le (t := 11) (q := 7) C dX0_hasPosition_4 (by decide) rfl (fun c => ?_) (fun c => ?_)
  · have v := v.1 c
    refine zg_iconst (v := 0) (q := 12) C dX0_hasPosition_11 (by decide) rfl ?_
    exact zg_zret C rfl dX0_hasPosition_12 ⟨Nat.le_refl _, Nat.le_refl _⟩ v.1 ⟨_, rfl, v.2⟩
  · have v := v.2 c
    refine zg_iconst (v := 1) (q := 8) C dX0_hasPosition_7 (by decide) rfl ?_
    refine zg_goto (t := 12) C dX0_hasPosition_8 (by decide) ?_
    exact zg_zret C rfl dX0_hasPosition_12 ⟨Nat.le_refl _, Nat.le_refl _⟩ v.1 ⟨_, rfl, v.2⟩
theorem rnX0_hasPosition {E : Wd} {d : Nat} {a0 : Nat} {h : Hp} {Q : Int32 → Hp → Prop} (k : vcX0_hasPosition_0 E d a0 h Q) : OkI E YX0_hasPosition d [.ref a0] h Q :=
  zz_body2 (r := 0) mX0_hasPosition (zc_a zc_n) (Nat.le_of_ble_eq_true rfl) (fun X C => zsX0_hasPosition_0 C a0 h k)
def vcX0_made_0 (E : Wd) (d : Nat) (a0 : Nat) (h : Hp) (Q : Int32 → Hp → Prop) : Prop :=
  okI h a0 0 1 ∧ Q (if (0 : Int32) < ((fI h a0 1) - (1 : Int32)) then ((fI h a0 1) - (1 : Int32)) else (0 : Int32)) h
set_option maxRecDepth 100000 in
set_option maxHeartbeats 4000000 in
theorem zsX0_made_0 {E : Wd} {X : Mx} {d : Nat} {Q : Int32 → Hp → Prop} (C : zz_C E X YX0_made (d + 1) 0 0 (fun r h' => ∃ x : Int32, r = some (.int x) ∧ Q x h')) (a0 : Nat) (h : Hp) (v : vcX0_made_0 E d a0 h Q) : GG E X 1 0 0 0 [some (.ref a0)] [] h := by
  refine zg_iconst (v := 0) (q := 1) C dX0_made_0 (by decide) rfl ?_
  refine zg_aload_n (q := 2) C dX0_made_1 rfl rfl ?_
  refine zg_get (j := 1) (q := 5) C bX0 (by decide) lkX0_15 dX0_made_2 rfl (okI.get v.1) ?_
  have v := v.2
  refine zg_iconst (v := 1) (q := 6) C dX0_made_5 (by decide) rfl ?_
  refine zg_isub (q := 7) C dX0_made_6 rfl ?_
  refine zg_max (q := 10) C maX0_29 rfl (Nat.le_add_left _ _) (Nat.le_of_ble_eq_true rfl) ⟨Nat.le_refl _, Nat.le_refl _⟩ dX0_made_7 rfl ?_
  exact zg_iret C rfl dX0_made_10 ⟨Nat.le_refl _, Nat.le_refl _⟩ ⟨_, rfl, v⟩
theorem rnX0_made {E : Wd} {d : Nat} {a0 : Nat} {h : Hp} {Q : Int32 → Hp → Prop} (k : vcX0_made_0 E d a0 h Q) : OkI E YX0_made (d + 1) [.ref a0] h Q :=
  zz_body2 (r := 0) mX0_made (zc_a zc_n) (Nat.le_of_ble_eq_true rfl) (fun X C => zsX0_made_0 C a0 h k)
def vcX0_at_0 (E : Wd) (d : Nat) (a0 : Nat) (x1 : Int32) (h : Hp) (Q : Int32 → Hp → Prop) : Prop :=
  (x1 < (0 : Int32) → Q ((-1)) h) ∧ (¬ x1 < (0 : Int32) → okA h a0 0 0 ∧ okL E h (fA h a0 0) 0 ∧ ((lA h (fA h a0 0)) ≤ x1 → Q ((-1)) h) ∧ (¬ (lA h (fA h a0 0)) ≤ x1 → okA h a0 0 0 ∧ okR E h (fA h a0 0) 0 x1 ∧ Q (gA h (fA h a0 0) x1) h))
set_option maxRecDepth 100000 in
set_option maxHeartbeats 4000000 in
theorem zsX0_at_0 {E : Wd} {X : Mx} {d : Nat} {Q : Int32 → Hp → Prop} (C : zz_C E X YX0_at d 0 0 (fun r h' => ∃ x : Int32, r = some (.int x) ∧ Q x h')) (a0 : Nat) (x1 : Int32) (h : Hp) (v : vcX0_at_0 E d a0 x1 h Q) : GG E X 2 0 0 0 [some (.ref a0), some (.int x1)] [] h := by
  refine zg_iload_n (q := 1) C dX0_at_0 rfl rfl ?_
  refine zg_if_lt (t := 22) (q := 4) C dX0_at_1 (by decide) rfl (fun c => ?_) (fun c => ?_)
  · have v := v.1 c
    refine zg_iconst (v := (-1)) (q := 23) C dX0_at_22 (by decide) rfl ?_
    exact zg_iret C rfl dX0_at_23 ⟨Nat.le_refl _, Nat.le_refl _⟩ ⟨_, rfl, v⟩
  · have v := v.2 c
    refine zg_iload_n (q := 5) C dX0_at_4 rfl rfl ?_
    refine zg_aload_n (q := 6) C dX0_at_5 rfl rfl ?_
    refine zg_get (j := 0) (q := 9) C bX0 (by decide) lkX0_9 dX0_at_6 rfl (okA.get v.1) ?_
    have v := v.2
    refine zg_alen (t := 0) (q := 10) C (by decide) dX0_at_9 rfl v.1 ?_
    have v := v.2
    refine zg_icmp_ge (t := 22) (q := 13) C dX0_at_10 (by decide) rfl (fun c => ?_) (fun c => ?_)
    · have v := v.1 c
      refine zg_iconst (v := (-1)) (q := 23) C dX0_at_22 (by decide) rfl ?_
      exact zg_iret C rfl dX0_at_23 ⟨Nat.le_refl _, Nat.le_refl _⟩ ⟨_, rfl, v⟩
    · have v := v.2 c
      refine zg_aload_n (q := 14) C dX0_at_13 rfl rfl ?_
      refine zg_get (j := 0) (q := 17) C bX0 (by decide) lkX0_9 dX0_at_14 rfl (okA.get v.1) ?_
      have v := v.2
      refine zg_iload_n (q := 18) C dX0_at_17 rfl rfl ?_
      refine zg_iald (q := 19) C dX0_at_18 rfl v.1 ?_
      have v := v.2
      refine zg_goto (t := 23) C dX0_at_19 (by decide) ?_
      exact zg_iret C rfl dX0_at_23 ⟨Nat.le_refl _, Nat.le_refl _⟩ ⟨_, rfl, v⟩
theorem rnX0_at {E : Wd} {d : Nat} {a0 : Nat} {x1 : Int32} {h : Hp} {Q : Int32 → Hp → Prop} (k : vcX0_at_0 E d a0 x1 h Q) : OkI E YX0_at d [.ref a0, .int x1] h Q :=
  zz_body2 (r := 0) mX0_at (zc_a (zc_i zc_n)) (Nat.le_of_ble_eq_true rfl) (fun X C => zsX0_at_0 C a0 x1 h k)
def vcX0_present_0 (E : Wd) (d : Nat) (a0 : Nat) (h : Hp) (Q : Int32 → Hp → Prop) : Prop :=
  okI h a0 0 1 ∧ isO h a0 0 ∧ OkI E YX0_at d [.ref a0, .int ((fI h a0 1) - (1 : Int32))] h (fun r2 h1 => Q r2 h1)
set_option maxRecDepth 100000 in
set_option maxHeartbeats 4000000 in
theorem zsX0_present_0 {E : Wd} {X : Mx} {d : Nat} {Q : Int32 → Hp → Prop} (C : zz_C E X YX0_present (d + 1) 0 0 (fun r h' => ∃ x : Int32, r = some (.int x) ∧ Q x h')) (a0 : Nat) (h : Hp) (v : vcX0_present_0 E d a0 h Q) : GG E X 1 0 0 0 [some (.ref a0)] [] h := by
  refine zg_aload_n (q := 1) C dX0_present_0 rfl rfl ?_
  refine zg_aload_n (q := 2) C dX0_present_1 rfl rfl ?_
  refine zg_get (j := 1) (q := 5) C bX0 (by decide) lkX0_15 dX0_present_2 rfl (okI.get v.1) ?_
  have v := v.2
  refine zg_iconst (v := 1) (q := 6) C dX0_present_5 (by decide) rfl ?_
  refine zg_isub (q := 7) C dX0_present_6 rfl ?_
  refine zg_cV1I (q := 10) C mX0_at vX0_at lmX0_35 rfl (bX0).1 v.1 (Nat.le_of_ble_eq_true rfl) ⟨Nat.le_refl _, Nat.le_refl _⟩ dX0_present_7 rfl v.2 (fun r2 h1 v => ?_)
  exact zg_iret C rfl dX0_present_10 ⟨Nat.le_refl _, Nat.le_refl _⟩ ⟨_, rfl, v⟩
theorem rnX0_present {E : Wd} {d : Nat} {a0 : Nat} {h : Hp} {Q : Int32 → Hp → Prop} (k : vcX0_present_0 E d a0 h Q) : OkI E YX0_present (d + 1) [.ref a0] h Q :=
  zz_body2 (r := 0) mX0_present (zc_a zc_n) (Nat.le_of_ble_eq_true rfl) (fun X C => zsX0_present_0 C a0 h k)
def vcX0_occurrences_0 (E : Wd) (d : Nat) (a0 : Nat) (h : Hp) (Q : Int32 → Hp → Prop) : Prop :=
  okI h a0 0 1 ∧ ((fI h a0 1) ≤ (0 : Int32) → Q 0 h) ∧ (¬ (fI h a0 1) ≤ (0 : Int32) → okI h a0 0 1 ∧ isO h a0 0 ∧ OkI E YX0_occurrencesUpTo d [.ref a0, .int ((fI h a0 1) - (1 : Int32))] h (fun r2 h1 => Q r2 h1))
set_option maxRecDepth 100000 in
set_option maxHeartbeats 4000000 in
theorem zsX0_occurrences_0 {E : Wd} {X : Mx} {d : Nat} {Q : Int32 → Hp → Prop} (C : zz_C E X YX0_occurrences (d + 1) 0 0 (fun r h' => ∃ x : Int32, r = some (.int x) ∧ Q x h')) (a0 : Nat) (h : Hp) (v : vcX0_occurrences_0 E d a0 h Q) : GG E X 1 0 0 0 [some (.ref a0)] [] h := by
  refine zg_aload_n (q := 1) C dX0_occurrences_0 rfl rfl ?_
  refine zg_get (j := 1) (q := 4) C bX0 (by decide) lkX0_15 dX0_occurrences_1 rfl (okI.get v.1) ?_
  have v := v.2
  refine zg_if_le (t := 20) (q := 7) C dX0_occurrences_4 (by decide) rfl (fun c => ?_) (fun c => ?_)
  · have v := v.1 c
    refine zg_iconst (v := 0) (q := 21) C dX0_occurrences_20 (by decide) rfl ?_
    exact zg_iret C rfl dX0_occurrences_21 ⟨Nat.le_refl _, Nat.le_refl _⟩ ⟨_, rfl, v⟩
  · have v := v.2 c
    refine zg_aload_n (q := 8) C dX0_occurrences_7 rfl rfl ?_
    refine zg_aload_n (q := 9) C dX0_occurrences_8 rfl rfl ?_
    refine zg_get (j := 1) (q := 12) C bX0 (by decide) lkX0_15 dX0_occurrences_9 rfl (okI.get v.1) ?_
    have v := v.2
    refine zg_iconst (v := 1) (q := 13) C dX0_occurrences_12 (by decide) rfl ?_
    refine zg_isub (q := 14) C dX0_occurrences_13 rfl ?_
    refine zg_cV1I (q := 17) C mX0_occurrencesUpTo vX0_occurrencesUpTo lmX0_39 rfl (bX0).1 v.1 (Nat.le_of_ble_eq_true rfl) ⟨Nat.le_refl _, Nat.le_refl _⟩ dX0_occurrences_14 rfl v.2 (fun r2 h1 v => ?_)
    refine zg_goto (t := 21) C dX0_occurrences_17 (by decide) ?_
    exact zg_iret C rfl dX0_occurrences_21 ⟨Nat.le_refl _, Nat.le_refl _⟩ ⟨_, rfl, v⟩
theorem rnX0_occurrences {E : Wd} {d : Nat} {a0 : Nat} {h : Hp} {Q : Int32 → Hp → Prop} (k : vcX0_occurrences_0 E d a0 h Q) : OkI E YX0_occurrences (d + 1) [.ref a0] h Q :=
  zz_body2 (r := 0) mX0_occurrences (zc_a zc_n) (Nat.le_of_ble_eq_true rfl) (fun X C => zsX0_occurrences_0 C a0 h k)
def vcX0_occurrencesUpTo_0 (E : Wd) (d : Nat) (K4 : Nat → Int32 → Int32 → Int32 → Hp → Prop) (a0 : Nat) (x1 : Int32) (h : Hp) (Q : Int32 → Hp → Prop) : Prop :=
  K4 a0 x1 0 0 h
def vcX0_occurrencesUpTo_4 (E : Wd) (d : Nat) (K4 : Nat → Int32 → Int32 → Int32 → Hp → Prop) (a0 : Nat) (x1 : Int32) (x2 : Int32) (x3 : Int32) (h : Hp) (Q : Int32 → Hp → Prop) : Prop :=
  (x1 < x3 → Q x2 h) ∧ (¬ x1 < x3 → isO h a0 0 ∧ OkI E YX0_at d [.ref a0, .int x3] h (fun r2 h1 => isO h1 a0 0 ∧ OkI E YX0_at d [.ref a0, .int x1] h1 (fun r4 h3 => (¬ r2 = r4 → K4 a0 x1 x2 (x3 + 1) h3) ∧ (r2 = r4 → K4 a0 x1 (x2 + 1) (x3 + 1) h3))))
def zkX0_occurrencesUpTo_4 (E : Wd) (X : Mx) : Nat → Int32 → Int32 → Int32 → Hp → Prop := fun a0 x1 x2 x3 h => GG E X 4 0 0 4 [some (.ref a0), some (.int x1), some (.int x2), some (.int x3)] [] h
set_option maxRecDepth 100000 in
set_option maxHeartbeats 4000000 in
theorem zsX0_occurrencesUpTo_0 {E : Wd} {X : Mx} {d : Nat} {Q : Int32 → Hp → Prop} (C : zz_C E X YX0_occurrencesUpTo (d + 1) 0 0 (fun r h' => ∃ x : Int32, r = some (.int x) ∧ Q x h')) (a0 : Nat) (x1 : Int32) (h : Hp) (v : vcX0_occurrencesUpTo_0 E d (zkX0_occurrencesUpTo_4 E X) a0 x1 h Q) : GG E X 4 0 0 0 [some (.ref a0), some (.int x1), none, none] [] h := by
  refine zg_iconst (v := 0) (q := 1) C dX0_occurrencesUpTo_0 (by decide) rfl ?_
  refine zg_istore_n (q := 2) C dX0_occurrencesUpTo_1 (by decide) rfl ?_
  refine zg_iconst (v := 0) (q := 3) C dX0_occurrencesUpTo_2 (by decide) rfl ?_
  refine zg_istore_n (q := 4) C dX0_occurrencesUpTo_3 (by decide) rfl ?_
  exact zg_mask [true, true, true, true] v
set_option maxRecDepth 100000 in
set_option maxHeartbeats 4000000 in
theorem zsX0_occurrencesUpTo_4 {E : Wd} {X : Mx} {d : Nat} {Q : Int32 → Hp → Prop} (C : zz_C E X YX0_occurrencesUpTo (d + 1) 0 0 (fun r h' => ∃ x : Int32, r = some (.int x) ∧ Q x h')) (a0 : Nat) (x1 : Int32) (x2 : Int32) (x3 : Int32) (h : Hp) (v : vcX0_occurrencesUpTo_4 E d (zkX0_occurrencesUpTo_4 E X) a0 x1 x2 x3 h Q) : GG E X 4 0 0 4 [some (.ref a0), some (.int x1), some (.int x2), some (.int x3)] [] h := by
  refine zg_iload_n (q := 5) C dX0_occurrencesUpTo_4 rfl rfl ?_
  refine zg_iload_n (q := 6) C dX0_occurrencesUpTo_5 rfl rfl ?_
  refine zg_icmp_gt (t := 31) (q := 9) C dX0_occurrencesUpTo_6 (by decide) rfl (fun c => ?_) (fun c => ?_)
  · have v := v.1 c
    refine zg_iload_n (q := 32) C dX0_occurrencesUpTo_31 rfl rfl ?_
    exact zg_iret C rfl dX0_occurrencesUpTo_32 ⟨Nat.le_refl _, Nat.le_refl _⟩ ⟨_, rfl, v⟩
  · have v := v.2 c
    refine zg_aload_n (q := 10) C dX0_occurrencesUpTo_9 rfl rfl ?_
    refine zg_iload_n (q := 11) C dX0_occurrencesUpTo_10 rfl rfl ?_
    refine zg_cV1I (q := 14) C mX0_at vX0_at lmX0_35 rfl (bX0).1 v.1 (Nat.le_of_ble_eq_true rfl) ⟨Nat.le_refl _, Nat.le_refl _⟩ dX0_occurrencesUpTo_11 rfl v.2 (fun r2 h1 v => ?_)
    refine zg_aload_n (q := 15) C dX0_occurrencesUpTo_14 rfl rfl ?_
    refine zg_iload_n (q := 16) C dX0_occurrencesUpTo_15 rfl rfl ?_
    refine zg_cV1I (q := 19) C mX0_at vX0_at lmX0_35 rfl (bX0).1 v.1 (Nat.le_of_ble_eq_true rfl) ⟨Nat.le_refl _, Nat.le_refl _⟩ dX0_occurrencesUpTo_16 rfl v.2 (fun r4 h3 v => ?_)
    refine zg_icmp_ne (t := 25) (q := 22) C dX0_occurrencesUpTo_19 (by decide) rfl (fun c => ?_) (fun c => ?_)
    · have v := v.1 c
      refine zg_iinc (v := 1) (q := 28) C dX0_occurrencesUpTo_25 rfl (by decide) (by decide) rfl ?_
      refine zg_goto (t := 4) C dX0_occurrencesUpTo_28 (by decide) ?_
      exact zg_mask [true, true, true, true] v
    · have v := v.2 c
      refine zg_iinc (v := 1) (q := 25) C dX0_occurrencesUpTo_22 rfl (by decide) (by decide) rfl ?_
      refine zg_iinc (v := 1) (q := 28) C dX0_occurrencesUpTo_25 rfl (by decide) (by decide) rfl ?_
      refine zg_goto (t := 4) C dX0_occurrencesUpTo_28 (by decide) ?_
      exact zg_mask [true, true, true, true] v
theorem rnX0_occurrencesUpTo {E : Wd} {d : Nat} {a0 : Nat} {x1 : Int32} {h : Hp} {Q : Int32 → Hp → Prop} (k : ∀ (K4 : Nat → Int32 → Int32 → Int32 → Hp → Prop),(∀ (a0 : Nat) (x1 : Int32) (x2 : Int32) (x3 : Int32) h, vcX0_occurrencesUpTo_4 E d K4 a0 x1 x2 x3 h Q → K4 a0 x1 x2 x3 h) → vcX0_occurrencesUpTo_0 E d K4 a0 x1 h Q) : OkI E YX0_occurrencesUpTo (d + 1) [.ref a0, .int x1] h Q :=
  zz_body2 (r := 2) mX0_occurrencesUpTo (zc_a (zc_i zc_n)) (Nat.le_of_ble_eq_true rfl) (fun X C => zsX0_occurrencesUpTo_0 C a0 x1 h (k (zkX0_occurrencesUpTo_4 E X) (fun a0 x1 x2 x3 h v => zsX0_occurrencesUpTo_4 C a0 x1 x2 x3 h v)))
def vcX0_different_0 (E : Wd) (d : Nat) (K4 : Nat → Int32 → Int32 → Hp → Prop) (a0 : Nat) (h : Hp) (Q : Int32 → Hp → Prop) : Prop :=
  K4 a0 0 0 h
def vcX0_different_4 (E : Wd) (d : Nat) (K4 : Nat → Int32 → Int32 → Hp → Prop) (a0 : Nat) (x1 : Int32) (x2 : Int32) (h : Hp) (Q : Int32 → Hp → Prop) : Prop :=
  okI h a0 0 1 ∧ ((fI h a0 1) ≤ x2 → Q x1 h) ∧ (¬ (fI h a0 1) ≤ x2 → isO h a0 0 ∧ OkI E YX0_occurrencesUpTo d [.ref a0, .int x2] h (fun r2 h1 => (¬ r2 = (1 : Int32) → K4 a0 x1 (x2 + 1) h1) ∧ (r2 = (1 : Int32) → K4 a0 (x1 + 1) (x2 + 1) h1)))
def zkX0_different_4 (E : Wd) (X : Mx) : Nat → Int32 → Int32 → Hp → Prop := fun a0 x1 x2 h => GG E X 3 0 0 4 [some (.ref a0), some (.int x1), some (.int x2)] [] h
set_option maxRecDepth 100000 in
set_option maxHeartbeats 4000000 in
theorem zsX0_different_0 {E : Wd} {X : Mx} {d : Nat} {Q : Int32 → Hp → Prop} (C : zz_C E X YX0_different (d + 1) 0 0 (fun r h' => ∃ x : Int32, r = some (.int x) ∧ Q x h')) (a0 : Nat) (h : Hp) (v : vcX0_different_0 E d (zkX0_different_4 E X) a0 h Q) : GG E X 3 0 0 0 [some (.ref a0), none, none] [] h := by
  refine zg_iconst (v := 0) (q := 1) C dX0_different_0 (by decide) rfl ?_
  refine zg_istore_n (q := 2) C dX0_different_1 (by decide) rfl ?_
  refine zg_iconst (v := 0) (q := 3) C dX0_different_2 (by decide) rfl ?_
  refine zg_istore_n (q := 4) C dX0_different_3 (by decide) rfl ?_
  exact zg_mask [true, true, true] v
set_option maxRecDepth 100000 in
set_option maxHeartbeats 4000000 in
theorem zsX0_different_4 {E : Wd} {X : Mx} {d : Nat} {Q : Int32 → Hp → Prop} (C : zz_C E X YX0_different (d + 1) 0 0 (fun r h' => ∃ x : Int32, r = some (.int x) ∧ Q x h')) (a0 : Nat) (x1 : Int32) (x2 : Int32) (h : Hp) (v : vcX0_different_4 E d (zkX0_different_4 E X) a0 x1 x2 h Q) : GG E X 3 0 0 4 [some (.ref a0), some (.int x1), some (.int x2)] [] h := by
  refine zg_iload_n (q := 5) C dX0_different_4 rfl rfl ?_
  refine zg_aload_n (q := 6) C dX0_different_5 rfl rfl ?_
  refine zg_get (j := 1) (q := 9) C bX0 (by decide) lkX0_15 dX0_different_6 rfl (okI.get v.1) ?_
  have v := v.2
  refine zg_icmp_ge (t := 30) (q := 12) C dX0_different_9 (by decide) rfl (fun c => ?_) (fun c => ?_)
  · have v := v.1 c
    refine zg_iload_n (q := 31) C dX0_different_30 rfl rfl ?_
    exact zg_iret C rfl dX0_different_31 ⟨Nat.le_refl _, Nat.le_refl _⟩ ⟨_, rfl, v⟩
  · have v := v.2 c
    refine zg_aload_n (q := 13) C dX0_different_12 rfl rfl ?_
    refine zg_iload_n (q := 14) C dX0_different_13 rfl rfl ?_
    refine zg_cV1I (q := 17) C mX0_occurrencesUpTo vX0_occurrencesUpTo lmX0_39 rfl (bX0).1 v.1 (Nat.le_of_ble_eq_true rfl) ⟨Nat.le_refl _, Nat.le_refl _⟩ dX0_different_14 rfl v.2 (fun r2 h1 v => ?_)
    refine zg_iconst (v := 1) (q := 18) C dX0_different_17 (by decide) rfl ?_
    refine zg_icmp_ne (t := 24) (q := 21) C dX0_different_18 (by decide) rfl (fun c => ?_) (fun c => ?_)
    · have v := v.1 c
      refine zg_iinc (v := 1) (q := 27) C dX0_different_24 rfl (by decide) (by decide) rfl ?_
      refine zg_goto (t := 4) C dX0_different_27 (by decide) ?_
      exact zg_mask [true, true, true] v
    · have v := v.2 c
      refine zg_iinc (v := 1) (q := 24) C dX0_different_21 rfl (by decide) (by decide) rfl ?_
      refine zg_iinc (v := 1) (q := 27) C dX0_different_24 rfl (by decide) (by decide) rfl ?_
      refine zg_goto (t := 4) C dX0_different_27 (by decide) ?_
      exact zg_mask [true, true, true] v
theorem rnX0_different {E : Wd} {d : Nat} {a0 : Nat} {h : Hp} {Q : Int32 → Hp → Prop} (k : ∀ (K4 : Nat → Int32 → Int32 → Hp → Prop),(∀ (a0 : Nat) (x1 : Int32) (x2 : Int32) h, vcX0_different_4 E d K4 a0 x1 x2 h Q → K4 a0 x1 x2 h) → vcX0_different_0 E d K4 a0 h Q) : OkI E YX0_different (d + 1) [.ref a0] h Q :=
  zz_body2 (r := 2) mX0_different (zc_a zc_n) (Nat.le_of_ble_eq_true rfl) (fun X C => zsX0_different_0 C a0 h (k (zkX0_different_4 E X) (fun a0 x1 x2 h v => zsX0_different_4 C a0 x1 x2 h v)))
