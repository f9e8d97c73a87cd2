def vcX5_init_0 (E : Wd) (d : Nat) (mc ms : Nat) (K48 : Nat → Nat → Int32 → Int32 → Hp → Prop) (a0 : Nat) (a1 : Nat) (h : Hp) (Q : Hp → Prop) : Prop :=
  (1 ≤ mc ∧ 104 ≤ ms) ∧ ∀ h1, h1 = nA E h 0 104 → okP h1 a0 5 1 ∧ ∀ h3, h3 = pF h1 a0 1 (.ref (h.1)) → okP h3 a0 5 0 ∧ ∀ h4, h4 = pF h3 a0 0 (.ref a1) → isO h4 a1 4 ∧ OkI E YX4_hasPawns d [.ref a1] h4 (fun r6 h5 => (r6 = (0 : Int32) → okI h5 a1 4 0 ∧ okI h5 a1 4 1 ∧ (¬ (fI h5 a1 0) = (fI h5 a1 1) → K48 a0 a1 4 0 h5) ∧ ((fI h5 a1 0) = (fI h5 a1 1) → K48 a0 a1 8 0 h5)) ∧ (¬ r6 = (0 : Int32) → K48 a0 a1 2 0 h5))
def vcX5_init_48 (E : Wd) (d : Nat) (mc ms : Nat) (K48 : Nat → Nat → Int32 → Int32 → Hp → Prop) (a0 : Nat) (a1 : Nat) (x2 : Int32) (x3 : Int32) (h : Hp) (Q : Hp → Prop) : Prop :=
  (1 ≤ mc ∧ 104 ≤ ms) ∧ (x2 ≤ x3 → Q h) ∧ (¬ x2 ≤ x3 → okA h a0 5 1 ∧ okI h a0 5 2 ∧ OkI E YX5_writeMap d [.ref a1, .int x3, .ref (fA h a0 1), .int ((fI h a0 2) * (13 : Int32))] h (fun r2 h1 => (r2 = (0 : Int32) → K48 a0 a1 x2 (x3 + 1) h1) ∧ (¬ r2 = (0 : Int32) → okI h1 a0 5 2 ∧ okP h1 a0 5 2 ∧ ∀ h3, h3 = pF h1 a0 2 (.int ((fI h1 a0 2) + (1 : Int32))) → K48 a0 a1 x2 (x3 + 1) h3)))
def zkX5_init_48 (E : Wd) (X : Mx) : Nat → Nat → Int32 → Int32 → Hp → Prop := fun a0 a1 x2 x3 h => GG E X 4 1 104 48 [some (.ref a0), some (.ref a1), some (.int x2), some (.int x3)] [] h
set_option maxRecDepth 100000 in
set_option maxHeartbeats 4000000 in
theorem zsX5_init_0 {E : Wd} {X : Mx} {d mc ms : Nat} {Q : Hp → Prop} (C : zz_C E X YX5_init (d + 1) mc ms (fun r h' => r = none ∧ Q h')) (a0 : Nat) (a1 : Nat) (h : Hp) (v : vcX5_init_0 E d mc ms (zkX5_init_48 E X) a0 a1 h Q) : GG E X 4 0 0 0 [some (.ref a0), some (.ref a1), none, none] [] h := by
  refine zg_aload_n (q := 1) C dX5_init_0 rfl rfl ?_
  refine zg_objInit (q := 4) C oiX5 rfl (Nat.le_add_left _ _) (Nat.le_of_ble_eq_true rfl) dX5_init_1 rfl ?_
  refine zg_aload_n (q := 5) C dX5_init_4 rfl rfl ?_
  refine zg_bipush (v := 104) (q := 7) C dX5_init_5 (by decide) rfl ?_
  refine zg_newI (m := 104) (q := 9) C ar0 dX5_init_7 rfl (by decide) (by decide) (by decide) v.1 ?_
  have c2 := v.1
  have v := v.2 _ rfl
  refine zg_putF (j := 1) (q := 12) C bX5 (by decide) lkX5_11 dX5_init_9 rfl rfl rfl rfl v.1 rfl rfl ?_
  have v := v.2 _ rfl
  refine zg_aload_n (q := 13) C dX5_init_12 rfl rfl ?_
  refine zg_aload_n (q := 14) C dX5_init_13 rfl rfl ?_
  refine zg_putF (j := 0) (q := 17) C bX5 (by decide) lkX5_15 dX5_init_14 rfl rfl rfl rfl v.1 rfl rfl ?_
  have v := v.2 _ rfl
  refine zg_aload_n (q := 18) C dX5_init_17 rfl rfl ?_
  refine zg_cV0I (q := 21) C mX4_hasPawns vX4_hasPawns lmX5_19 rfl (bX4).1 v.1 (Nat.le_of_ble_eq_true rfl) c2 dX5_init_18 rfl v.2 (fun r6 h5 v => ?_)
  refine zg_if_eq (t := 28) (q := 24) C dX5_init_21 (by decide) rfl (fun c => ?_) (fun c => ?_)
  · have v := v.1 c
    refine zg_aload_n (q := 29) C dX5_init_28 rfl rfl ?_
    refine zg_getN (j := 0) (q := 32) C bX4 (by decide) lkX5_25 dX5_init_29 rfl (okI.get v.1) ?_
    have v := v.2
    refine zg_aload_n (q := 33) C dX5_init_32 rfl rfl ?_
    refine zg_getN (j := 1) (q := 36) C bX4 (by decide) lkX5_29 dX5_init_33 rfl (okI.get v.1) ?_
    have v := v.2
    refine zg_icmp_ne (t := 44) (q := 39) C dX5_init_36 (by decide) rfl (fun c => ?_) (fun c => ?_)
    · have v := v.1 c
      refine zg_iconst (v := 4) (q := 45) C dX5_init_44 (by decide) rfl ?_
      refine zg_istore_n (q := 46) C dX5_init_45 (by decide) rfl ?_
      refine zg_iconst (v := 0) (q := 47) C dX5_init_46 (by decide) rfl ?_
      refine zg_istore_n (q := 48) C dX5_init_47 (by decide) rfl ?_
      exact zg_mask [true, true, true, true] v
    · have v := v.2 c
      refine zg_bipush (v := 8) (q := 41) C dX5_init_39 (by decide) rfl ?_
      refine zg_goto (t := 45) C dX5_init_41 (by decide) ?_
      refine zg_istore_n (q := 46) C dX5_init_45 (by decide) rfl ?_
      refine zg_iconst (v := 0) (q := 47) C dX5_init_46 (by decide) rfl ?_
      refine zg_istore_n (q := 48) C dX5_init_47 (by decide) rfl ?_
      exact zg_mask [true, true, true, true] v
  · have v := v.2 c
    refine zg_iconst (v := 2) (q := 25) C dX5_init_24 (by decide) rfl ?_
    refine zg_goto (t := 45) C dX5_init_25 (by decide) ?_
    refine zg_istore_n (q := 46) C dX5_init_45 (by decide) rfl ?_
    refine zg_iconst (v := 0) (q := 47) C dX5_init_46 (by decide) rfl ?_
    refine zg_istore_n (q := 48) C dX5_init_47 (by decide) rfl ?_
    exact zg_mask [true, true, true, true] v
set_option maxRecDepth 100000 in
set_option maxHeartbeats 4000000 in
theorem zsX5_init_48 {E : Wd} {X : Mx} {d mc ms : Nat} {Q : Hp → Prop} (C : zz_C E X YX5_init (d + 1) mc ms (fun r h' => r = none ∧ Q h')) (a0 : Nat) (a1 : Nat) (x2 : Int32) (x3 : Int32) (h : Hp) (v : vcX5_init_48 E d mc ms (zkX5_init_48 E X) a0 a1 x2 x3 h Q) : GG E X 4 1 104 48 [some (.ref a0), some (.ref a1), some (.int x2), some (.int x3)] [] h := by
  have hc := v.1
  have v := v.2
  refine zg_iload_n (q := 49) C dX5_init_48 rfl rfl ?_
  refine zg_iload_n (q := 50) C dX5_init_49 rfl rfl ?_
  refine zg_icmp_ge (t := 88) (q := 53) C dX5_init_50 (by decide) rfl (fun c => ?_) (fun c => ?_)
  · have v := v.1 c
    exact zg_vret C rfl dX5_init_88 hc ⟨rfl, v⟩
  · have v := v.2 c
    refine zg_aload_n (q := 54) C dX5_init_53 rfl rfl ?_
    refine zg_iload_n (q := 55) C dX5_init_54 rfl rfl ?_
    refine zg_aload_n (q := 56) C dX5_init_55 rfl rfl ?_
    refine zg_get (j := 1) (q := 59) C bX5 (by decide) lkX5_11 dX5_init_56 rfl (okA.get v.1) ?_
    have v := v.2
    refine zg_aload_n (q := 60) C dX5_init_59 rfl rfl ?_
    refine zg_get (j := 2) (q := 63) C bX5 (by decide) lkX5_32 dX5_init_60 rfl (okI.get v.1) ?_
    have v := v.2
    refine zg_bipush (v := 13) (q := 65) C dX5_init_63 (by decide) rfl ?_
    refine zg_imul (q := 66) C dX5_init_65 rfl ?_
    refine zg_cS4I (q := 69) C mX5_writeMap tX5_writeMap lmX5_35 rfl (Nat.le_of_ble_eq_true rfl) hc dX5_init_66 rfl v (fun r2 h1 v => ?_)
    refine zg_if_eq (t := 82) (q := 72) C dX5_init_69 (by decide) rfl (fun c => ?_) (fun c => ?_)
    · have v := v.1 c
      refine zg_iinc (v := 1) (q := 85) C dX5_init_82 rfl (by decide) (by decide) rfl ?_
      refine zg_goto (t := 48) C dX5_init_85 (by decide) ?_
      exact zg_mask [true, true, true, true] v
    · have v := v.2 c
      refine zg_aload_n (q := 73) C dX5_init_72 rfl rfl ?_
      refine zg_dup (q := 74) C dX5_init_73 rfl rfl ?_
      refine zg_get (j := 2) (q := 77) C bX5 (by decide) lkX5_32 dX5_init_74 rfl (okI.get v.1) ?_
      have v := v.2
      refine zg_iconst (v := 1) (q := 78) C dX5_init_77 (by decide) rfl ?_
      refine zg_iadd (q := 79) C dX5_init_78 rfl ?_
      refine zg_put (j := 2) (q := 82) C bX5 (by decide) lkX5_32 dX5_init_79 rfl rfl v.1 rfl rfl ?_
      have v := v.2 _ rfl
      refine zg_iinc (v := 1) (q := 85) C dX5_init_82 rfl (by decide) (by decide) rfl ?_
      refine zg_goto (t := 48) C dX5_init_85 (by decide) ?_
      exact zg_mask [true, true, true, true] v
theorem rnX5_init {E : Wd} {d mc ms : Nat} {a0 : Nat} {a1 : Nat} {h : Hp} {Q : Hp → Prop} (k : ∀ (K48 : Nat → Nat → Int32 → Int32 → Hp → Prop),(∀ (a0 : Nat) (a1 : Nat) (x2 : Int32) (x3 : Int32) h, vcX5_init_48 E d mc ms K48 a0 a1 x2 x3 h Q → K48 a0 a1 x2 x3 h) → vcX5_init_0 E d mc ms K48 a0 a1 h Q) : OkW E YX5_init (d + 1) mc ms [.ref a0, .ref a1] h Q :=
  zz_body2 (r := 2) mX5_init (zc_a (zc_a zc_n)) (Nat.le_of_ble_eq_true rfl) (fun X C => zsX5_init_0 C a0 a1 h (k (zkX5_init_48 E X) (fun a0 a1 x2 x3 h v => zsX5_init_48 C a0 a1 x2 x3 h v)))
def vcX5_writeMap_0 (E : Wd) (d : Nat) (K29 : Nat → Int32 → Nat → Int32 → Int32 → Int32 → Hp → Prop) (a0 : Nat) (x1 : Int32) (a2 : Nat) (x3 : Int32) (h : Hp) (Q : Int32 → Hp → Prop) : Prop :=
  (x3 < (0 : Int32) → mB 0 ∧ Q 0 h) ∧ (¬ x3 < (0 : Int32) → okL E h a2 0 ∧ ((lA h a2) < (x3 + (13 : Int32)) → mB 0 ∧ Q 0 h) ∧ (¬ (lA h a2) < (x3 + (13 : Int32)) → okI h a0 4 0 ∧ ((1 : Int32) ≤ (fI h a0 0) → K29 a0 x1 a2 x3 0 0 h) ∧ (¬ (1 : Int32) ≤ (fI h a0 0) → mB 0 ∧ Q 0 h)))
def vcX5_writeMap_184 (E : Wd) (d : Nat) (K29 : Nat → Int32 → Nat → Int32 → Int32 → Int32 → Hp → Prop) (a0 : Nat) (x4 : Int32) (h : Hp) (Q : Int32 → Hp → Prop) : Prop :=
  okI h a0 4 3 ∧ (¬ x4 = (fI h a0 3) → mB 0 ∧ Q 0 h) ∧ (x4 = (fI h a0 3) → mB 1 ∧ Q 1 h)
def vcX5_writeMap_163 (E : Wd) (d : Nat) (K29 : Nat → Int32 → Nat → Int32 → Int32 → Int32 → Hp → Prop) (a0 : Nat) (a2 : Nat) (x3 : Int32) (x4 : Int32) (h : Hp) (Q : Int32 → Hp → Prop) : Prop :=
  okI h a0 4 2 ∧ ((13 : Int32) ≤ (fI h a0 2) → vcX5_writeMap_184 E d K29 a0 x4 h Q) ∧ (¬ (13 : Int32) ≤ (fI h a0 2) → okI h a0 4 2 ∧ okI h a0 4 2 ∧ okR E h a2 0 (x3 + (fI h a0 2)) ∧ ∀ h1, h1 = sA h a2 (x3 + (fI h a0 2)) (fI h a0 2) → vcX5_writeMap_184 E d K29 a0 x4 h1 Q)
def vcX5_writeMap_126 (E : Wd) (d : Nat) (K29 : Nat → Int32 → Nat → Int32 → Int32 → Int32 → Hp → Prop) (a0 : Nat) (x1 : Int32) (a2 : Nat) (x3 : Int32) (x4 : Int32) (x5 : Int32) (s0 : Int32) (h : Hp) (Q : Int32 → Hp → Prop) : Prop :=
  okR E h a2 0 (x3 + x5) ∧ ∀ h1, h1 = sA h a2 (x3 + x5) s0 → okI h1 a0 4 3 ∧ ((((fI h1 a0 3) >>> (x5 &&& 31)) &&& (1 : Int32)) = (0 : Int32) → K29 a0 x1 a2 x3 x4 (x5 + 1) h1) ∧ (¬ (((fI h1 a0 3) >>> (x5 &&& 31)) &&& (1 : Int32)) = (0 : Int32) → K29 a0 x1 a2 x3 (x4 ||| ((1 : Int32) <<< (s0 &&& 31))) (x5 + 1) h1)
def vcX5_writeMap_97 (E : Wd) (d : Nat) (K29 : Nat → Int32 → Nat → Int32 → Int32 → Int32 → Hp → Prop) (a0 : Nat) (x1 : Int32) (a2 : Nat) (x3 : Int32) (x4 : Int32) (x5 : Int32) (x6 : Int32) (x7 : Int32) (h : Hp) (Q : Int32 → Hp → Prop) : Prop :=
  ((x1 &&& (4 : Int32)) = (0 : Int32) → okI h a0 4 0 ∧ vcX5_writeMap_126 E d K29 a0 x1 a2 x3 x4 x5 ((x7 * (fI h a0 0)) + x6) h Q) ∧ (¬ (x1 &&& (4 : Int32)) = (0 : Int32) → okI h a0 4 0 ∧ vcX5_writeMap_126 E d K29 a0 x1 a2 x3 x4 x5 ((x6 * (fI h a0 0)) + x7) h Q)
def vcX5_writeMap_80 (E : Wd) (d : Nat) (K29 : Nat → Int32 → Nat → Int32 → Int32 → Int32 → Hp → Prop) (a0 : Nat) (x1 : Int32) (a2 : Nat) (x3 : Int32) (x4 : Int32) (x5 : Int32) (x6 : Int32) (x7 : Int32) (h : Hp) (Q : Int32 → Hp → Prop) : Prop :=
  ((x1 &&& (2 : Int32)) = (0 : Int32) → vcX5_writeMap_97 E d K29 a0 x1 a2 x3 x4 x5 x6 x7 h Q) ∧ (¬ (x1 &&& (2 : Int32)) = (0 : Int32) → okI h a0 4 1 ∧ vcX5_writeMap_97 E d K29 a0 x1 a2 x3 x4 x5 x6 (((fI h a0 1) - (1 : Int32)) - x7) h Q)
def vcX5_writeMap_29 (E : Wd) (d : Nat) (K29 : Nat → Int32 → Nat → Int32 → Int32 → Int32 → Hp → Prop) (a0 : Nat) (x1 : Int32) (a2 : Nat) (x3 : Int32) (x4 : Int32) (x5 : Int32) (h : Hp) (Q : Int32 → Hp → Prop) : Prop :=
  okI h a0 4 2 ∧ ((fI h a0 2) ≤ x5 → vcX5_writeMap_163 E d K29 a0 a2 x3 x4 h Q) ∧ (¬ (fI h a0 2) ≤ x5 → ((13 : Int32) ≤ x5 → vcX5_writeMap_163 E d K29 a0 a2 x3 x4 h Q) ∧ (¬ (13 : Int32) ≤ x5 → okI h a0 4 0 ∧ (¬ (fI h a0 0) = (0 : Int32)) ∧ okI h a0 4 0 ∧ (¬ (fI h a0 0) = (0 : Int32)) ∧ ((x1 &&& (1 : Int32)) = (0 : Int32) → vcX5_writeMap_80 E d K29 a0 x1 a2 x3 x4 x5 (x5 - x5 / (fI h a0 0) * (fI h a0 0)) (x5 / (fI h a0 0)) h Q) ∧ (¬ (x1 &&& (1 : Int32)) = (0 : Int32) → okI h a0 4 0 ∧ vcX5_writeMap_80 E d K29 a0 x1 a2 x3 x4 x5 (((fI h a0 0) - (1 : Int32)) - (x5 - x5 / (fI h a0 0) * (fI h a0 0))) (x5 / (fI h a0 0)) h Q)))
def zkX5_writeMap_29 (E : Wd) (X : Mx) : Nat → Int32 → Nat → Int32 → Int32 → Int32 → Hp → Prop := fun a0 x1 a2 x3 x4 x5 h => GG E X 9 0 0 29 [some (.ref a0), some (.int x1), some (.ref a2), some (.int x3), some (.int x4), some (.int x5), none, none, none] [] h
set_option maxRecDepth 100000 in
set_option maxHeartbeats 4000000 in
theorem zsX5_writeMap_0 {E : Wd} {X : Mx} {d : Nat} {Q : Int32 → Hp → Prop} (C : zz_C E X YX5_writeMap d 0 0 (fun r h' => ∃ x : Int32, r = some (.int x) ∧ Q x h')) (a0 : Nat) (x1 : Int32) (a2 : Nat) (x3 : Int32) (h : Hp) (v : vcX5_writeMap_0 E d (zkX5_writeMap_29 E X) a0 x1 a2 x3 h Q) : GG E X 9 0 0 0 [some (.ref a0), some (.int x1), some (.ref a2), some (.int x3), none, none, none, none, none] [] h := by
  refine zg_iconst (v := 0) (q := 1) C dX5_writeMap_0 (by decide) rfl ?_
  refine zg_istore (q := 3) C dX5_writeMap_1 (by decide) rfl ?_
  refine zg_iload_n (q := 4) C dX5_writeMap_3 rfl rfl ?_
  refine zg_if_lt (t := 24) (q := 7) C dX5_writeMap_4 (by decide) rfl (fun c => ?_) (fun c => ?_)
  · have v := v.1 c
    refine zg_iconst (v := 0) (q := 25) C dX5_writeMap_24 (by decide) rfl ?_
    exact zg_zret C rfl dX5_writeMap_25 ⟨Nat.le_refl _, Nat.le_refl _⟩ v.1 ⟨_, rfl, v.2⟩
  · have v := v.2 c
    refine zg_iload_n (q := 8) C dX5_writeMap_7 rfl rfl ?_
    refine zg_bipush (v := 13) (q := 10) C dX5_writeMap_8 (by decide) rfl ?_
    refine zg_iadd (q := 11) C dX5_writeMap_10 rfl ?_
    refine zg_aload_n (q := 12) C dX5_writeMap_11 rfl rfl ?_
    refine zg_alen (t := 0) (q := 13) C (by decide) dX5_writeMap_12 rfl v.1 ?_
    have v := v.2
    refine zg_icmp_gt (t := 24) (q := 16) C dX5_writeMap_13 (by decide) rfl (fun c => ?_) (fun c => ?_)
    · have v := v.1 c
      refine zg_iconst (v := 0) (q := 25) C dX5_writeMap_24 (by decide) rfl ?_
      exact zg_zret C rfl dX5_writeMap_25 ⟨Nat.le_refl _, Nat.le_refl _⟩ v.1 ⟨_, rfl, v.2⟩
    · have v := v.2 c
      refine zg_aload_n (q := 17) C dX5_writeMap_16 rfl rfl ?_
      refine zg_getN (j := 0) (q := 20) C bX4 (by decide) lkX5_25 dX5_writeMap_17 rfl (okI.get v.1) ?_
      have v := v.2
      refine zg_iconst (v := 1) (q := 21) C dX5_writeMap_20 (by decide) rfl ?_
      refine zg_icmp_ge (t := 26) (q := 24) C dX5_writeMap_21 (by decide) rfl (fun c => ?_) (fun c => ?_)
      · have v := v.1 c
        refine zg_iconst (v := 0) (q := 27) C dX5_writeMap_26 (by decide) rfl ?_
        refine zg_istore (q := 29) C dX5_writeMap_27 (by decide) rfl ?_
        exact zg_mask [true, true, true, true, true, true, false, false, false] v
      · have v := v.2 c
        refine zg_iconst (v := 0) (q := 25) C dX5_writeMap_24 (by decide) rfl ?_
        exact zg_zret C rfl dX5_writeMap_25 ⟨Nat.le_refl _, Nat.le_refl _⟩ v.1 ⟨_, rfl, v.2⟩
set_option maxRecDepth 100000 in
set_option maxHeartbeats 4000000 in
theorem zsX5_writeMap_184 {E : Wd} {X : Mx} {d : Nat} {Q : Int32 → Hp → Prop} (C : zz_C E X YX5_writeMap d 0 0 (fun r h' => ∃ x : Int32, r = some (.int x) ∧ Q x h')) (a0 : Nat) (x4 : Int32) (h : Hp) (v : vcX5_writeMap_184 E d (zkX5_writeMap_29 E X) a0 x4 h Q) : GG E X 9 0 0 184 [some (.ref a0), none, none, none, some (.int x4), none, none, none, none] [] h := by
  refine zg_iload (q := 186) C dX5_writeMap_184 rfl rfl ?_
  refine zg_aload_n (q := 187) C dX5_writeMap_186 rfl rfl ?_
  refine zg_getN (j := 3) (q := 190) C bX4 (by decide) lkX5_42 dX5_writeMap_187 rfl (okI.get v.1) ?_
  have v := v.2
  refine zg_icmp_ne (t := 197) (q := 193) C dX5_writeMap_190 (by decide) rfl (fun c => ?_) (fun c => ?_)
  · have v := v.1 c
    refine zg_iconst (v := 0) (q := 198) C dX5_writeMap_197 (by decide) rfl ?_
    exact zg_zret C rfl dX5_writeMap_198 ⟨Nat.le_refl _, Nat.le_refl _⟩ v.1 ⟨_, rfl, v.2⟩
  · have v := v.2 c
    refine zg_iconst (v := 1) (q := 194) C dX5_writeMap_193 (by decide) rfl ?_
    refine zg_goto (t := 198) C dX5_writeMap_194 (by decide) ?_
    exact zg_zret C rfl dX5_writeMap_198 ⟨Nat.le_refl _, Nat.le_refl _⟩ v.1 ⟨_, rfl, v.2⟩
set_option maxRecDepth 100000 in
set_option maxHeartbeats 4000000 in
theorem zsX5_writeMap_163 {E : Wd} {X : Mx} {d : Nat} {Q : Int32 → Hp → Prop} (C : zz_C E X YX5_writeMap d 0 0 (fun r h' => ∃ x : Int32, r = some (.int x) ∧ Q x h')) (a0 : Nat) (a2 : Nat) (x3 : Int32) (x4 : Int32) (h : Hp) (v : vcX5_writeMap_163 E d (zkX5_writeMap_29 E X) a0 a2 x3 x4 h Q) : GG E X 9 0 0 163 [some (.ref a0), none, some (.ref a2), some (.int x3), some (.int x4), none, none, none, none] [] h := by
  refine zg_aload_n (q := 164) C dX5_writeMap_163 rfl rfl ?_
  refine zg_getN (j := 2) (q := 167) C bX4 (by decide) lkX5_39 dX5_writeMap_164 rfl (okI.get v.1) ?_
  have v := v.2
  refine zg_bipush (v := 13) (q := 169) C dX5_writeMap_167 (by decide) rfl ?_
  refine zg_icmp_ge (t := 184) (q := 172) C dX5_writeMap_169 (by decide) rfl (fun c => ?_) (fun c => ?_)
  · have v := v.1 c
    exact zg_mask [true, false, false, false, true, false, false, false, false] (zsX5_writeMap_184 C _ _ _ v)
  · have v := v.2 c
    refine zg_aload_n (q := 173) C dX5_writeMap_172 rfl rfl ?_
    refine zg_iload_n (q := 174) C dX5_writeMap_173 rfl rfl ?_
    refine zg_aload_n (q := 175) C dX5_writeMap_174 rfl rfl ?_
    refine zg_getN (j := 2) (q := 178) C bX4 (by decide) lkX5_39 dX5_writeMap_175 rfl (okI.get v.1) ?_
    have v := v.2
    refine zg_iadd (q := 179) C dX5_writeMap_178 rfl ?_
    refine zg_aload_n (q := 180) C dX5_writeMap_179 rfl rfl ?_
    refine zg_getN (j := 2) (q := 183) C bX4 (by decide) lkX5_39 dX5_writeMap_180 rfl (okI.get v.1) ?_
    have v := v.2
    refine zg_iast (q := 184) C dX5_writeMap_183 rfl v.1 ?_
    have v := v.2 _ rfl
    exact zg_mask [true, false, false, false, true, false, false, false, false] (zsX5_writeMap_184 C _ _ _ v)
set_option maxRecDepth 100000 in
set_option maxHeartbeats 4000000 in
theorem zsX5_writeMap_126 {E : Wd} {X : Mx} {d : Nat} {Q : Int32 → Hp → Prop} (C : zz_C E X YX5_writeMap d 0 0 (fun r h' => ∃ x : Int32, r = some (.int x) ∧ Q x h')) (a0 : Nat) (x1 : Int32) (a2 : Nat) (x3 : Int32) (x4 : Int32) (x5 : Int32) (s0 : Int32) (h : Hp) (v : vcX5_writeMap_126 E d (zkX5_writeMap_29 E X) a0 x1 a2 x3 x4 x5 s0 h Q) : GG E X 9 0 0 126 [some (.ref a0), some (.int x1), some (.ref a2), some (.int x3), some (.int x4), some (.int x5), none, none, none] [.int s0] h := by
  refine zg_istore (q := 128) C dX5_writeMap_126 (by decide) rfl ?_
  refine zg_aload_n (q := 129) C dX5_writeMap_128 rfl rfl ?_
  refine zg_iload_n (q := 130) C dX5_writeMap_129 rfl rfl ?_
  refine zg_iload (q := 132) C dX5_writeMap_130 rfl rfl ?_
  refine zg_iadd (q := 133) C dX5_writeMap_132 rfl ?_
  refine zg_iload (q := 135) C dX5_writeMap_133 rfl rfl ?_
  refine zg_iast (q := 136) C dX5_writeMap_135 rfl v.1 ?_
  have v := v.2 _ rfl
  refine zg_aload_n (q := 137) C dX5_writeMap_136 rfl rfl ?_
  refine zg_getN (j := 3) (q := 140) C bX4 (by decide) lkX5_42 dX5_writeMap_137 rfl (okI.get v.1) ?_
  have v := v.2
  refine zg_iload (q := 142) C dX5_writeMap_140 rfl rfl ?_
  refine zg_ishr (q := 143) C dX5_writeMap_142 rfl ?_
  refine zg_iconst (v := 1) (q := 144) C dX5_writeMap_143 (by decide) rfl ?_
  refine zg_iand (q := 145) C dX5_writeMap_144 rfl ?_
  refine zg_if_eq (t := 157) (q := 148) C dX5_writeMap_145 (by decide) rfl (fun c => ?_) (fun c => ?_)
  · have v := v.1 c
    refine zg_iinc (v := 1) (q := 160) C dX5_writeMap_157 rfl (by decide) (by decide) rfl ?_
    refine zg_goto (t := 29) C dX5_writeMap_160 (by decide) ?_
    exact zg_mask [true, true, true, true, true, true, false, false, false] v
  · have v := v.2 c
    refine zg_iload (q := 150) C dX5_writeMap_148 rfl rfl ?_
    refine zg_iconst (v := 1) (q := 151) C dX5_writeMap_150 (by decide) rfl ?_
    refine zg_iload (q := 153) C dX5_writeMap_151 rfl rfl ?_
    refine zg_ishl (q := 154) C dX5_writeMap_153 rfl ?_
    refine zg_ior (q := 155) C dX5_writeMap_154 rfl ?_
    refine zg_istore (q := 157) C dX5_writeMap_155 (by decide) rfl ?_
    refine zg_iinc (v := 1) (q := 160) C dX5_writeMap_157 rfl (by decide) (by decide) rfl ?_
    refine zg_goto (t := 29) C dX5_writeMap_160 (by decide) ?_
    exact zg_mask [true, true, true, true, true, true, false, false, false] v
set_option maxRecDepth 100000 in
set_option maxHeartbeats 4000000 in
theorem zsX5_writeMap_97 {E : Wd} {X : Mx} {d : Nat} {Q : Int32 → Hp → Prop} (C : zz_C E X YX5_writeMap d 0 0 (fun r h' => ∃ x : Int32, r = some (.int x) ∧ Q x h')) (a0 : Nat) (x1 : Int32) (a2 : Nat) (x3 : Int32) (x4 : Int32) (x5 : Int32) (x6 : Int32) (x7 : Int32) (h : Hp) (v : vcX5_writeMap_97 E d (zkX5_writeMap_29 E X) a0 x1 a2 x3 x4 x5 x6 x7 h Q) : GG E X 9 0 0 97 [some (.ref a0), some (.int x1), some (.ref a2), some (.int x3), some (.int x4), some (.int x5), some (.int x6), some (.int x7), none] [] h := by
  refine zg_iload_n (q := 98) C dX5_writeMap_97 rfl rfl ?_
  refine zg_iconst (v := 4) (q := 99) C dX5_writeMap_98 (by decide) rfl ?_
  refine zg_iand (q := 100) C dX5_writeMap_99 rfl ?_
  refine zg_if_eq (t := 116) (q := 103) C dX5_writeMap_100 (by decide) rfl (fun c => ?_) (fun c => ?_)
  · have v := v.1 c
    refine zg_iload (q := 118) C dX5_writeMap_116 rfl rfl ?_
    refine zg_aload_n (q := 119) C dX5_writeMap_118 rfl rfl ?_
    refine zg_getN (j := 0) (q := 122) C bX4 (by decide) lkX5_25 dX5_writeMap_119 rfl (okI.get v.1) ?_
    have v := v.2
    refine zg_imul (q := 123) C dX5_writeMap_122 rfl ?_
    refine zg_iload (q := 125) C dX5_writeMap_123 rfl rfl ?_
    refine zg_iadd (q := 126) C dX5_writeMap_125 rfl ?_
    exact zg_mask [true, true, true, true, true, true, false, false, false] (zsX5_writeMap_126 C _ _ _ _ _ _ _ _ v)
  · have v := v.2 c
    refine zg_iload (q := 105) C dX5_writeMap_103 rfl rfl ?_
    refine zg_aload_n (q := 106) C dX5_writeMap_105 rfl rfl ?_
    refine zg_getN (j := 0) (q := 109) C bX4 (by decide) lkX5_25 dX5_writeMap_106 rfl (okI.get v.1) ?_
    have v := v.2
    refine zg_imul (q := 110) C dX5_writeMap_109 rfl ?_
    refine zg_iload (q := 112) C dX5_writeMap_110 rfl rfl ?_
    refine zg_iadd (q := 113) C dX5_writeMap_112 rfl ?_
    refine zg_goto (t := 126) C dX5_writeMap_113 (by decide) ?_
    exact zg_mask [true, true, true, true, true, true, false, false, false] (zsX5_writeMap_126 C _ _ _ _ _ _ _ _ v)
set_option maxRecDepth 100000 in
set_option maxHeartbeats 4000000 in
theorem zsX5_writeMap_80 {E : Wd} {X : Mx} {d : Nat} {Q : Int32 → Hp → Prop} (C : zz_C E X YX5_writeMap d 0 0 (fun r h' => ∃ x : Int32, r = some (.int x) ∧ Q x h')) (a0 : Nat) (x1 : Int32) (a2 : Nat) (x3 : Int32) (x4 : Int32) (x5 : Int32) (x6 : Int32) (x7 : Int32) (h : Hp) (v : vcX5_writeMap_80 E d (zkX5_writeMap_29 E X) a0 x1 a2 x3 x4 x5 x6 x7 h Q) : GG E X 9 0 0 80 [some (.ref a0), some (.int x1), some (.ref a2), some (.int x3), some (.int x4), some (.int x5), some (.int x6), some (.int x7), none] [] h := by
  refine zg_iload_n (q := 81) C dX5_writeMap_80 rfl rfl ?_
  refine zg_iconst (v := 2) (q := 82) C dX5_writeMap_81 (by decide) rfl ?_
  refine zg_iand (q := 83) C dX5_writeMap_82 rfl ?_
  refine zg_if_eq (t := 97) (q := 86) C dX5_writeMap_83 (by decide) rfl (fun c => ?_) (fun c => ?_)
  · have v := v.1 c
    exact zg_mask [true, true, true, true, true, true, true, true, false] (zsX5_writeMap_97 C _ _ _ _ _ _ _ _ _ v)
  · have v := v.2 c
    refine zg_aload_n (q := 87) C dX5_writeMap_86 rfl rfl ?_
    refine zg_getN (j := 1) (q := 90) C bX4 (by decide) lkX5_29 dX5_writeMap_87 rfl (okI.get v.1) ?_
    have v := v.2
    refine zg_iconst (v := 1) (q := 91) C dX5_writeMap_90 (by decide) rfl ?_
    refine zg_isub (q := 92) C dX5_writeMap_91 rfl ?_
    refine zg_iload (q := 94) C dX5_writeMap_92 rfl rfl ?_
    refine zg_isub (q := 95) C dX5_writeMap_94 rfl ?_
    refine zg_istore (q := 97) C dX5_writeMap_95 (by decide) rfl ?_
    exact zg_mask [true, true, true, true, true, true, true, true, false] (zsX5_writeMap_97 C _ _ _ _ _ _ _ _ _ v)
set_option maxRecDepth 100000 in
set_option maxHeartbeats 4000000 in
theorem zsX5_writeMap_29 {E : Wd} {X : Mx} {d : Nat} {Q : Int32 → Hp → Prop} (C : zz_C E X YX5_writeMap d 0 0 (fun r h' => ∃ x : Int32, r = some (.int x) ∧ Q x h')) (a0 : Nat) (x1 : Int32) (a2 : Nat) (x3 : Int32) (x4 : Int32) (x5 : Int32) (h : Hp) (v : vcX5_writeMap_29 E d (zkX5_writeMap_29 E X) a0 x1 a2 x3 x4 x5 h Q) : GG E X 9 0 0 29 [some (.ref a0), some (.int x1), some (.ref a2), some (.int x3), some (.int x4), some (.int x5), none, none, none] [] h := by
  refine zg_iload (q := 31) C dX5_writeMap_29 rfl rfl ?_
  refine zg_aload_n (q := 32) C dX5_writeMap_31 rfl rfl ?_
  refine zg_getN (j := 2) (q := 35) C bX4 (by decide) lkX5_39 dX5_writeMap_32 rfl (okI.get v.1) ?_
  have v := v.2
  refine zg_icmp_ge (t := 163) (q := 38) C dX5_writeMap_35 (by decide) rfl (fun c => ?_) (fun c => ?_)
  · have v := v.1 c
    exact zg_mask [true, false, true, true, true, false, false, false, false] (zsX5_writeMap_163 C _ _ _ _ _ v)
  · have v := v.2 c
    refine zg_iload (q := 40) C dX5_writeMap_38 rfl rfl ?_
    refine zg_bipush (v := 13) (q := 42) C dX5_writeMap_40 (by decide) rfl ?_
    refine zg_icmp_ge (t := 163) (q := 45) C dX5_writeMap_42 (by decide) rfl (fun c => ?_) (fun c => ?_)
    · have v := v.1 c
      exact zg_mask [true, false, true, true, true, false, false, false, false] (zsX5_writeMap_163 C _ _ _ _ _ v)
    · have v := v.2 c
      refine zg_iload (q := 47) C dX5_writeMap_45 rfl rfl ?_
      refine zg_aload_n (q := 48) C dX5_writeMap_47 rfl rfl ?_
      refine zg_getN (j := 0) (q := 51) C bX4 (by decide) lkX5_25 dX5_writeMap_48 rfl (okI.get v.1) ?_
      have v := v.2
      refine zg_irem (q := 52) C dX5_writeMap_51 v.1 rfl ?_
      have v := v.2
      refine zg_istore (q := 54) C dX5_writeMap_52 (by decide) rfl ?_
      refine zg_iload (q := 56) C dX5_writeMap_54 rfl rfl ?_
      refine zg_aload_n (q := 57) C dX5_writeMap_56 rfl rfl ?_
      refine zg_getN (j := 0) (q := 60) C bX4 (by decide) lkX5_25 dX5_writeMap_57 rfl (okI.get v.1) ?_
      have v := v.2
      refine zg_idiv (q := 61) C dX5_writeMap_60 v.1 rfl ?_
      have v := v.2
      refine zg_istore (q := 63) C dX5_writeMap_61 (by decide) rfl ?_
      refine zg_iload_n (q := 64) C dX5_writeMap_63 rfl rfl ?_
      refine zg_iconst (v := 1) (q := 65) C dX5_writeMap_64 (by decide) rfl ?_
      refine zg_iand (q := 66) C dX5_writeMap_65 rfl ?_
      refine zg_if_eq (t := 80) (q := 69) C dX5_writeMap_66 (by decide) rfl (fun c => ?_) (fun c => ?_)
      · have v := v.1 c
        exact zg_mask [true, true, true, true, true, true, true, true, false] (zsX5_writeMap_80 C _ _ _ _ _ _ _ _ _ v)
      · have v := v.2 c
        refine zg_aload_n (q := 70) C dX5_writeMap_69 rfl rfl ?_
        refine zg_getN (j := 0) (q := 73) C bX4 (by decide) lkX5_25 dX5_writeMap_70 rfl (okI.get v.1) ?_
        have v := v.2
        refine zg_iconst (v := 1) (q := 74) C dX5_writeMap_73 (by decide) rfl ?_
        refine zg_isub (q := 75) C dX5_writeMap_74 rfl ?_
        refine zg_iload (q := 77) C dX5_writeMap_75 rfl rfl ?_
        refine zg_isub (q := 78) C dX5_writeMap_77 rfl ?_
        refine zg_istore (q := 80) C dX5_writeMap_78 (by decide) rfl ?_
        exact zg_mask [true, true, true, true, true, true, true, true, false] (zsX5_writeMap_80 C _ _ _ _ _ _ _ _ _ v)
theorem rnX5_writeMap {E : Wd} {d : Nat} {a0 : Nat} {x1 : Int32} {a2 : Nat} {x3 : Int32} {h : Hp} {Q : Int32 → Hp → Prop} (k : ∀ (K29 : Nat → Int32 → Nat → Int32 → Int32 → Int32 → Hp → Prop),(∀ (a0 : Nat) (x1 : Int32) (a2 : Nat) (x3 : Int32) (x4 : Int32) (x5 : Int32) h, vcX5_writeMap_29 E d K29 a0 x1 a2 x3 x4 x5 h Q → K29 a0 x1 a2 x3 x4 x5 h) → vcX5_writeMap_0 E d K29 a0 x1 a2 x3 h Q) : OkI E YX5_writeMap d [.ref a0, .int x1, .ref a2, .int x3] h Q :=
  zz_body2 (r := 5) mX5_writeMap (zc_a (zc_i (zc_a (zc_i zc_n)))) (Nat.le_of_ble_eq_true rfl) (fun X C => zsX5_writeMap_0 C a0 x1 a2 x3 h (k (zkX5_writeMap_29 E X) (fun a0 x1 a2 x3 x4 x5 h v => zsX5_writeMap_29 C a0 x1 a2 x3 x4 x5 h v)))
def vcX5_imageOf_0 (E : Wd) (d : Nat) (K7 : Nat → Int32 → Int32 → Int32 → Int32 → Hp → Prop) (a0 : Nat) (x1 : Int32) (x2 : Int32) (h : Hp) (Q : Int32 → Hp → Prop) : Prop :=
  K7 a0 x1 x2 (x1 &&& (1 : Int32)) 0 h
def vcX5_imageOf_7 (E : Wd) (d : Nat) (K7 : Nat → Int32 → Int32 → Int32 → Int32 → Hp → Prop) (a0 : Nat) (x1 : Int32) (x2 : Int32) (x3 : Int32) (x4 : Int32) (h : Hp) (Q : Int32 → Hp → Prop) : Prop :=
  ((3 : Int32) ≤ x4 → Q x3 h) ∧ (¬ (3 : Int32) ≤ x4 → okA h a0 5 0 ∧ isO h (fA h a0 0) 4 ∧ OkI E YX4_squareOf d [.ref (fA h a0 0), .int x1, .int x4] h (fun r2 h1 => (((x2 * (13 : Int32)) + r2) < (0 : Int32) → K7 a0 x1 x2 x3 (x4 + 1) h1) ∧ (¬ ((x2 * (13 : Int32)) + r2) < (0 : Int32) → okA h1 a0 5 1 ∧ okL E h1 (fA h1 a0 1) 0 ∧ ((lA h1 (fA h1 a0 1)) ≤ ((x2 * (13 : Int32)) + r2) → K7 a0 x1 x2 x3 (x4 + 1) h1) ∧ (¬ (lA h1 (fA h1 a0 1)) ≤ ((x2 * (13 : Int32)) + r2) → okA h1 a0 5 0 ∧ okA h1 a0 5 1 ∧ okR E h1 (fA h1 a0 1) 0 ((x2 * (13 : Int32)) + r2) ∧ isO h1 (fA h1 a0 0) 4 ∧ OkI E YX4_weighed d [.ref (fA h1 a0 0), .int x4, .int (gA h1 (fA h1 a0 1) ((x2 * (13 : Int32)) + r2))] h1 (fun r4 h3 => K7 a0 x1 x2 (x3 + r4) (x4 + 1) h3)))))
def zkX5_imageOf_7 (E : Wd) (X : Mx) : Nat → Int32 → Int32 → Int32 → Int32 → Hp → Prop := fun a0 x1 x2 x3 x4 h => GG E X 6 0 0 7 [some (.ref a0), some (.int x1), some (.int x2), some (.int x3), some (.int x4), none] [] h
set_option maxRecDepth 100000 in
set_option maxHeartbeats 4000000 in
theorem zsX5_imageOf_0 {E : Wd} {X : Mx} {d : Nat} {Q : Int32 → Hp → Prop} (C : zz_C E X YX5_imageOf (d + 1) 0 0 (fun r h' => ∃ x : Int32, r = some (.int x) ∧ Q x h')) (a0 : Nat) (x1 : Int32) (x2 : Int32) (h : Hp) (v : vcX5_imageOf_0 E d (zkX5_imageOf_7 E X) a0 x1 x2 h Q) : GG E X 6 0 0 0 [some (.ref a0), some (.int x1), some (.int x2), none, none, none] [] h := by
  refine zg_iload_n (q := 1) C dX5_imageOf_0 rfl rfl ?_
  refine zg_iconst (v := 1) (q := 2) C dX5_imageOf_1 (by decide) rfl ?_
  refine zg_iand (q := 3) C dX5_imageOf_2 rfl ?_
  refine zg_istore_n (q := 4) C dX5_imageOf_3 (by decide) rfl ?_
  refine zg_iconst (v := 0) (q := 5) C dX5_imageOf_4 (by decide) rfl ?_
  refine zg_istore (q := 7) C dX5_imageOf_5 (by decide) rfl ?_
  exact zg_mask [true, true, true, true, true, false] v
set_option maxRecDepth 100000 in
set_option maxHeartbeats 4000000 in
theorem zsX5_imageOf_7 {E : Wd} {X : Mx} {d : Nat} {Q : Int32 → Hp → Prop} (C : zz_C E X YX5_imageOf (d + 1) 0 0 (fun r h' => ∃ x : Int32, r = some (.int x) ∧ Q x h')) (a0 : Nat) (x1 : Int32) (x2 : Int32) (x3 : Int32) (x4 : Int32) (h : Hp) (v : vcX5_imageOf_7 E d (zkX5_imageOf_7 E X) a0 x1 x2 x3 x4 h Q) : GG E X 6 0 0 7 [some (.ref a0), some (.int x1), some (.int x2), some (.int x3), some (.int x4), none] [] h := by
  refine zg_iload (q := 9) C dX5_imageOf_7 rfl rfl ?_
  refine zg_iconst (v := 3) (q := 10) C dX5_imageOf_9 (by decide) rfl ?_
  refine zg_icmp_ge (t := 70) (q := 13) C dX5_imageOf_10 (by decide) rfl (fun c => ?_) (fun c => ?_)
  · have v := v.1 c
    refine zg_iload_n (q := 71) C dX5_imageOf_70 rfl rfl ?_
    exact zg_iret C rfl dX5_imageOf_71 ⟨Nat.le_refl _, Nat.le_refl _⟩ ⟨_, rfl, v⟩
  · have v := v.2 c
    refine zg_iload_n (q := 14) C dX5_imageOf_13 rfl rfl ?_
    refine zg_bipush (v := 13) (q := 16) C dX5_imageOf_14 (by decide) rfl ?_
    refine zg_imul (q := 17) C dX5_imageOf_16 rfl ?_
    refine zg_aload_n (q := 18) C dX5_imageOf_17 rfl rfl ?_
    refine zg_get (j := 0) (q := 21) C bX5 (by decide) lkX5_15 dX5_imageOf_18 rfl (okA.get v.1) ?_
    have v := v.2
    refine zg_iload_n (q := 22) C dX5_imageOf_21 rfl rfl ?_
    refine zg_iload (q := 24) C dX5_imageOf_22 rfl rfl ?_
    refine zg_cV2I (q := 27) C mX4_squareOf vX4_squareOf lmX5_45 rfl (bX4).1 v.1 (Nat.le_of_ble_eq_true rfl) ⟨Nat.le_refl _, Nat.le_refl _⟩ dX5_imageOf_24 rfl v.2 (fun r2 h1 v => ?_)
    refine zg_iadd (q := 28) C dX5_imageOf_27 rfl ?_
    refine zg_istore (q := 30) C dX5_imageOf_28 (by decide) rfl ?_
    refine zg_iload (q := 32) C dX5_imageOf_30 rfl rfl ?_
    refine zg_if_lt (t := 64) (q := 35) C dX5_imageOf_32 (by decide) rfl (fun c => ?_) (fun c => ?_)
    · have v := v.1 c
      refine zg_iinc (v := 1) (q := 67) C dX5_imageOf_64 rfl (by decide) (by decide) rfl ?_
      refine zg_goto (t := 7) C dX5_imageOf_67 (by decide) ?_
      exact zg_mask [true, true, true, true, true, false] v
    · have v := v.2 c
      refine zg_iload (q := 37) C dX5_imageOf_35 rfl rfl ?_
      refine zg_aload_n (q := 38) C dX5_imageOf_37 rfl rfl ?_
      refine zg_get (j := 1) (q := 41) C bX5 (by decide) lkX5_11 dX5_imageOf_38 rfl (okA.get v.1) ?_
      have v := v.2
      refine zg_alen (t := 0) (q := 42) C (by decide) dX5_imageOf_41 rfl v.1 ?_
      have v := v.2
      refine zg_icmp_ge (t := 64) (q := 45) C dX5_imageOf_42 (by decide) rfl (fun c => ?_) (fun c => ?_)
      · have v := v.1 c
        refine zg_iinc (v := 1) (q := 67) C dX5_imageOf_64 rfl (by decide) (by decide) rfl ?_
        refine zg_goto (t := 7) C dX5_imageOf_67 (by decide) ?_
        exact zg_mask [true, true, true, true, true, false] v
      · have v := v.2 c
        refine zg_iload_n (q := 46) C dX5_imageOf_45 rfl rfl ?_
        refine zg_aload_n (q := 47) C dX5_imageOf_46 rfl rfl ?_
        refine zg_get (j := 0) (q := 50) C bX5 (by decide) lkX5_15 dX5_imageOf_47 rfl (okA.get v.1) ?_
        have v := v.2
        refine zg_iload (q := 52) C dX5_imageOf_50 rfl rfl ?_
        refine zg_aload_n (q := 53) C dX5_imageOf_52 rfl rfl ?_
        refine zg_get (j := 1) (q := 56) C bX5 (by decide) lkX5_11 dX5_imageOf_53 rfl (okA.get v.1) ?_
        have v := v.2
        refine zg_iload (q := 58) C dX5_imageOf_56 rfl rfl ?_
        refine zg_iald (q := 59) C dX5_imageOf_58 rfl v.1 ?_
        have v := v.2
        refine zg_cV2I (q := 62) C mX4_weighed vX4_weighed lmX5_49 rfl (bX4).1 v.1 (Nat.le_of_ble_eq_true rfl) ⟨Nat.le_refl _, Nat.le_refl _⟩ dX5_imageOf_59 rfl v.2 (fun r4 h3 v => ?_)
        refine zg_iadd (q := 63) C dX5_imageOf_62 rfl ?_
        refine zg_istore_n (q := 64) C dX5_imageOf_63 (by decide) rfl ?_
        refine zg_iinc (v := 1) (q := 67) C dX5_imageOf_64 rfl (by decide) (by decide) rfl ?_
        refine zg_goto (t := 7) C dX5_imageOf_67 (by decide) ?_
        exact zg_mask [true, true, true, true, true, false] v
theorem rnX5_imageOf {E : Wd} {d : Nat} {a0 : Nat} {x1 : Int32} {x2 : Int32} {h : Hp} {Q : Int32 → Hp → Prop} (k : ∀ (K7 : Nat → Int32 → Int32 → Int32 → Int32 → Hp → Prop),(∀ (a0 : Nat) (x1 : Int32) (x2 : Int32) (x3 : Int32) (x4 : Int32) h, vcX5_imageOf_7 E d K7 a0 x1 x2 x3 x4 h Q → K7 a0 x1 x2 x3 x4 h) → vcX5_imageOf_0 E d K7 a0 x1 x2 h Q) : OkI E YX5_imageOf (d + 1) [.ref a0, .int x1, .int x2] h Q :=
  zz_body2 (r := 3) mX5_imageOf (zc_a (zc_i (zc_i zc_n))) (Nat.le_of_ble_eq_true rfl) (fun X C => zsX5_imageOf_0 C a0 x1 x2 h (k (zkX5_imageOf_7 E X) (fun a0 x1 x2 x3 x4 h v => zsX5_imageOf_7 C a0 x1 x2 x3 x4 h v)))
def vcX5_leastImage_0 (E : Wd) (d : Nat) (K4 : Nat → Int32 → Int32 → Int32 → Hp → Prop) (a0 : Nat) (x1 : Int32) (h : Hp) (Q : Int32 → Hp → Prop) : Prop :=
  K4 a0 x1 x1 0 h
def vcX5_leastImage_4 (E : Wd) (d : Nat) (K4 : Nat → Int32 → Int32 → Int32 → Hp → Prop) (a0 : Nat) (x1 : Int32) (x2 : Int32) (x3 : Int32) (h : Hp) (Q : Int32 → Hp → Prop) : Prop :=
  okI h a0 5 2 ∧ ((fI h a0 2) ≤ x3 → Q x2 h) ∧ (¬ (fI h a0 2) ≤ x3 → isO h a0 5 ∧ OkI E YX5_imageOf d [.ref a0, .int x1, .int x3] h (fun r2 h1 => K4 a0 x1 (if r2 < x2 then r2 else x2) (x3 + 1) h1))
def zkX5_leastImage_4 (E : Wd) (X : Mx) : Nat → Int32 → Int32 → Int32 → Hp → Prop := fun a0 x1 x2 x3 h => GG E X 4 0 0 4 [some (.ref a0), some (.int x1), some (.int x2), some (.int x3)] [] h
set_option maxRecDepth 100000 in
set_option maxHeartbeats 4000000 in
theorem zsX5_leastImage_0 {E : Wd} {X : Mx} {d : Nat} {Q : Int32 → Hp → Prop} (C : zz_C E X YX5_leastImage (d + 1) 0 0 (fun r h' => ∃ x : Int32, r = some (.int x) ∧ Q x h')) (a0 : Nat) (x1 : Int32) (h : Hp) (v : vcX5_leastImage_0 E d (zkX5_leastImage_4 E X) a0 x1 h Q) : GG E X 4 0 0 0 [some (.ref a0), some (.int x1), none, none] [] h := by
  refine zg_iload_n (q := 1) C dX5_leastImage_0 rfl rfl ?_
  refine zg_istore_n (q := 2) C dX5_leastImage_1 (by decide) rfl ?_
  refine zg_iconst (v := 0) (q := 3) C dX5_leastImage_2 (by decide) rfl ?_
  refine zg_istore_n (q := 4) C dX5_leastImage_3 (by decide) rfl ?_
  exact zg_mask [true, true, true, true] v
set_option maxRecDepth 100000 in
set_option maxHeartbeats 4000000 in
theorem zsX5_leastImage_4 {E : Wd} {X : Mx} {d : Nat} {Q : Int32 → Hp → Prop} (C : zz_C E X YX5_leastImage (d + 1) 0 0 (fun r h' => ∃ x : Int32, r = some (.int x) ∧ Q x h')) (a0 : Nat) (x1 : Int32) (x2 : Int32) (x3 : Int32) (h : Hp) (v : vcX5_leastImage_4 E d (zkX5_leastImage_4 E X) a0 x1 x2 x3 h Q) : GG E X 4 0 0 4 [some (.ref a0), some (.int x1), some (.int x2), some (.int x3)] [] h := by
  refine zg_iload_n (q := 5) C dX5_leastImage_4 rfl rfl ?_
  refine zg_aload_n (q := 6) C dX5_leastImage_5 rfl rfl ?_
  refine zg_get (j := 2) (q := 9) C bX5 (by decide) lkX5_32 dX5_leastImage_6 rfl (okI.get v.1) ?_
  have v := v.2
  refine zg_icmp_ge (t := 29) (q := 12) C dX5_leastImage_9 (by decide) rfl (fun c => ?_) (fun c => ?_)
  · have v := v.1 c
    refine zg_iload_n (q := 30) C dX5_leastImage_29 rfl rfl ?_
    exact zg_iret C rfl dX5_leastImage_30 ⟨Nat.le_refl _, Nat.le_refl _⟩ ⟨_, rfl, v⟩
  · have v := v.2 c
    refine zg_iload_n (q := 13) C dX5_leastImage_12 rfl rfl ?_
    refine zg_aload_n (q := 14) C dX5_leastImage_13 rfl rfl ?_
    refine zg_iload_n (q := 15) C dX5_leastImage_14 rfl rfl ?_
    refine zg_iload_n (q := 16) C dX5_leastImage_15 rfl rfl ?_
    refine zg_cV2I (q := 19) C mX5_imageOf vX5_imageOf lmX5_52 rfl (bX5).1 v.1 (Nat.le_of_ble_eq_true rfl) ⟨Nat.le_refl _, Nat.le_refl _⟩ dX5_leastImage_16 rfl v.2 (fun r2 h1 v => ?_)
    refine zg_min (q := 22) C maX5_55 rfl (Nat.le_add_left _ _) (Nat.le_of_ble_eq_true rfl) ⟨Nat.le_refl _, Nat.le_refl _⟩ dX5_leastImage_19 rfl ?_
    refine zg_istore_n (q := 23) C dX5_leastImage_22 (by decide) rfl ?_
    refine zg_iinc (v := 1) (q := 26) C dX5_leastImage_23 rfl (by decide) (by decide) rfl ?_
    refine zg_goto (t := 4) C dX5_leastImage_26 (by decide) ?_
    exact zg_mask [true, true, true, true] v
theorem rnX5_leastImage {E : Wd} {d : Nat} {a0 : Nat} {x1 : Int32} {h : Hp} {Q : Int32 → Hp → Prop} (k : ∀ (K4 : Nat → Int32 → Int32 → Int32 → Hp → Prop),(∀ (a0 : Nat) (x1 : Int32) (x2 : Int32) (x3 : Int32) h, vcX5_leastImage_4 E d K4 a0 x1 x2 x3 h Q → K4 a0 x1 x2 x3 h) → vcX5_leastImage_0 E d K4 a0 x1 h Q) : OkI E YX5_leastImage (d + 1) [.ref a0, .int x1] h Q :=
  zz_body2 (r := 2) mX5_leastImage (zc_a (zc_i zc_n)) (Nat.le_of_ble_eq_true rfl) (fun X C => zsX5_leastImage_0 C a0 x1 h (k (zkX5_leastImage_4 E X) (fun a0 x1 x2 x3 h v => zsX5_leastImage_4 C a0 x1 x2 x3 h v)))
def vcX5_isRepeated_0 (E : Wd) (d : Nat) (K10 : Nat → Int32 → Int32 → Int32 → Int32 → Hp → Prop) (a0 : Nat) (x1 : Int32) (x2 : Int32) (h : Hp) (Q : Int32 → Hp → Prop) : Prop :=
  isO h a0 5 ∧ OkI E YX5_imageOf d [.ref a0, .int x1, .int x2] h (fun r2 h1 => K10 a0 x1 x2 r2 0 h1)
def vcX5_isRepeated_10 (E : Wd) (d : Nat) (K10 : Nat → Int32 → Int32 → Int32 → Int32 → Hp → Prop) (a0 : Nat) (x1 : Int32) (x2 : Int32) (x3 : Int32) (x4 : Int32) (h : Hp) (Q : Int32 → Hp → Prop) : Prop :=
  (x2 ≤ x4 → mB 0 ∧ Q 0 h) ∧ (¬ x2 ≤ x4 → isO h a0 5 ∧ OkI E YX5_imageOf d [.ref a0, .int x1, .int x4] h (fun r2 h1 => (¬ r2 = x3 → K10 a0 x1 x2 x3 (x4 + 1) h1) ∧ (r2 = x3 → mB 1 ∧ Q 1 h1)))
def zkX5_isRepeated_10 (E : Wd) (X : Mx) : Nat → Int32 → Int32 → Int32 → Int32 → Hp → Prop := fun a0 x1 x2 x3 x4 h => GG E X 5 0 0 10 [some (.ref a0), some (.int x1), some (.int x2), some (.int x3), some (.int x4)] [] h
set_option maxRecDepth 100000 in
set_option maxHeartbeats 4000000 in
theorem zsX5_isRepeated_0 {E : Wd} {X : Mx} {d : Nat} {Q : Int32 → Hp → Prop} (C : zz_C E X YX5_isRepeated (d + 1) 0 0 (fun r h' => ∃ x : Int32, r = some (.int x) ∧ Q x h')) (a0 : Nat) (x1 : Int32) (x2 : Int32) (h : Hp) (v : vcX5_isRepeated_0 E d (zkX5_isRepeated_10 E X) a0 x1 x2 h Q) : GG E X 5 0 0 0 [some (.ref a0), some (.int x1), some (.int x2), none, none] [] h := by
  refine zg_aload_n (q := 1) C dX5_isRepeated_0 rfl rfl ?_
  refine zg_iload_n (q := 2) C dX5_isRepeated_1 rfl rfl ?_
  refine zg_iload_n (q := 3) C dX5_isRepeated_2 rfl rfl ?_
  refine zg_cV2I (q := 6) C mX5_imageOf vX5_imageOf lmX5_52 rfl (bX5).1 v.1 (Nat.le_of_ble_eq_true rfl) ⟨Nat.le_refl _, Nat.le_refl _⟩ dX5_isRepeated_3 rfl v.2 (fun r2 h1 v => ?_)
  refine zg_istore_n (q := 7) C dX5_isRepeated_6 (by decide) rfl ?_
  refine zg_iconst (v := 0) (q := 8) C dX5_isRepeated_7 (by decide) rfl ?_
  refine zg_istore (q := 10) C dX5_isRepeated_8 (by decide) rfl ?_
  exact zg_mask [true, true, true, true, true] v
set_option maxRecDepth 100000 in
set_option maxHeartbeats 4000000 in
theorem zsX5_isRepeated_10 {E : Wd} {X : Mx} {d : Nat} {Q : Int32 → Hp → Prop} (C : zz_C E X YX5_isRepeated (d + 1) 0 0 (fun r h' => ∃ x : Int32, r = some (.int x) ∧ Q x h')) (a0 : Nat) (x1 : Int32) (x2 : Int32) (x3 : Int32) (x4 : Int32) (h : Hp) (v : vcX5_isRepeated_10 E d (zkX5_isRepeated_10 E X) a0 x1 x2 x3 x4 h Q) : GG E X 5 0 0 10 [some (.ref a0), some (.int x1), some (.int x2), some (.int x3), some (.int x4)] [] h := by
  refine zg_iload (q := 12) C dX5_isRepeated_10 rfl rfl ?_
  refine zg_iload_n (q := 13) C dX5_isRepeated_12 rfl rfl ?_
  refine zg_icmp_ge (t := 35) (q := 16) C dX5_isRepeated_13 (by decide) rfl (fun c => ?_) (fun c => ?_)
  · have v := v.1 c
    refine zg_iconst (v := 0) (q := 36) C dX5_isRepeated_35 (by decide) rfl ?_
    exact zg_zret C rfl dX5_isRepeated_36 ⟨Nat.le_refl _, Nat.le_refl _⟩ v.1 ⟨_, rfl, v.2⟩
  · have v := v.2 c
    refine zg_aload_n (q := 17) C dX5_isRepeated_16 rfl rfl ?_
    refine zg_iload_n (q := 18) C dX5_isRepeated_17 rfl rfl ?_
    refine zg_iload (q := 20) C dX5_isRepeated_18 rfl rfl ?_
    refine zg_cV2I (q := 23) C mX5_imageOf vX5_imageOf lmX5_52 rfl (bX5).1 v.1 (Nat.le_of_ble_eq_true rfl) ⟨Nat.le_refl _, Nat.le_refl _⟩ dX5_isRepeated_20 rfl v.2 (fun r2 h1 v => ?_)
    refine zg_iload_n (q := 24) C dX5_isRepeated_23 rfl rfl ?_
    refine zg_icmp_ne (t := 29) (q := 27) C dX5_isRepeated_24 (by decide) rfl (fun c => ?_) (fun c => ?_)
    · have v := v.1 c
      refine zg_iinc (v := 1) (q := 32) C dX5_isRepeated_29 rfl (by decide) (by decide) rfl ?_
      refine zg_goto (t := 10) C dX5_isRepeated_32 (by decide) ?_
      exact zg_mask [true, true, true, true, true] v
    · have v := v.2 c
      refine zg_iconst (v := 1) (q := 28) C dX5_isRepeated_27 (by decide) rfl ?_
      exact zg_zret C rfl dX5_isRepeated_28 ⟨Nat.le_refl _, Nat.le_refl _⟩ v.1 ⟨_, rfl, v.2⟩
theorem rnX5_isRepeated {E : Wd} {d : Nat} {a0 : Nat} {x1 : Int32} {x2 : Int32} {h : Hp} {Q : Int32 → Hp → Prop} (k : ∀ (K10 : Nat → Int32 → Int32 → Int32 → Int32 → Hp → Prop),(∀ (a0 : Nat) (x1 : Int32) (x2 : Int32) (x3 : Int32) (x4 : Int32) h, vcX5_isRepeated_10 E d K10 a0 x1 x2 x3 x4 h Q → K10 a0 x1 x2 x3 x4 h) → vcX5_isRepeated_0 E d K10 a0 x1 x2 h Q) : OkI E YX5_isRepeated (d + 1) [.ref a0, .int x1, .int x2] h Q :=
  zz_body2 (r := 2) mX5_isRepeated (zc_a (zc_i (zc_i zc_n))) (Nat.le_of_ble_eq_true rfl) (fun X C => zsX5_isRepeated_0 C a0 x1 x2 h (k (zkX5_isRepeated_10 E X) (fun a0 x1 x2 x3 x4 h v => zsX5_isRepeated_10 C a0 x1 x2 x3 x4 h v)))
def vcX5_differentImages_0 (E : Wd) (d : Nat) (K4 : Nat → Int32 → Int32 → Int32 → Hp → Prop) (a0 : Nat) (x1 : Int32) (h : Hp) (Q : Int32 → Hp → Prop) : Prop :=
  K4 a0 x1 0 0 h
def vcX5_differentImages_4 (E : Wd) (d : Nat) (K4 : Nat → Int32 → Int32 → Int32 → Hp → Prop) (a0 : Nat) (x1 : Int32) (x2 : Int32) (x3 : Int32) (h : Hp) (Q : Int32 → Hp → Prop) : Prop :=
  okI h a0 5 2 ∧ ((fI h a0 2) ≤ x3 → Q x2 h) ∧ (¬ (fI h a0 2) ≤ x3 → isO h a0 5 ∧ OkI E YX5_isRepeated d [.ref a0, .int x1, .int x3] h (fun r2 h1 => (¬ r2 = (0 : Int32) → K4 a0 x1 x2 (x3 + 1) h1) ∧ (r2 = (0 : Int32) → K4 a0 x1 (x2 + 1) (x3 + 1) h1)))
def zkX5_differentImages_4 (E : Wd) (X : Mx) : Nat → Int32 → Int32 → Int32 → Hp → Prop := fun a0 x1 x2 x3 h => GG E X 4 0 0 4 [some (.ref a0), some (.int x1), some (.int x2), some (.int x3)] [] h
set_option maxRecDepth 100000 in
set_option maxHeartbeats 4000000 in
theorem zsX5_differentImages_0 {E : Wd} {X : Mx} {d : Nat} {Q : Int32 → Hp → Prop} (C : zz_C E X YX5_differentImages (d + 1) 0 0 (fun r h' => ∃ x : Int32, r = some (.int x) ∧ Q x h')) (a0 : Nat) (x1 : Int32) (h : Hp) (v : vcX5_differentImages_0 E d (zkX5_differentImages_4 E X) a0 x1 h Q) : GG E X 4 0 0 0 [some (.ref a0), some (.int x1), none, none] [] h := by
  refine zg_iconst (v := 0) (q := 1) C dX5_differentImages_0 (by decide) rfl ?_
  refine zg_istore_n (q := 2) C dX5_differentImages_1 (by decide) rfl ?_
  refine zg_iconst (v := 0) (q := 3) C dX5_differentImages_2 (by decide) rfl ?_
  refine zg_istore_n (q := 4) C dX5_differentImages_3 (by decide) rfl ?_
  exact zg_mask [true, true, true, true] v
set_option maxRecDepth 100000 in
set_option maxHeartbeats 4000000 in
theorem zsX5_differentImages_4 {E : Wd} {X : Mx} {d : Nat} {Q : Int32 → Hp → Prop} (C : zz_C E X YX5_differentImages (d + 1) 0 0 (fun r h' => ∃ x : Int32, r = some (.int x) ∧ Q x h')) (a0 : Nat) (x1 : Int32) (x2 : Int32) (x3 : Int32) (h : Hp) (v : vcX5_differentImages_4 E d (zkX5_differentImages_4 E X) a0 x1 x2 x3 h Q) : GG E X 4 0 0 4 [some (.ref a0), some (.int x1), some (.int x2), some (.int x3)] [] h := by
  refine zg_iload_n (q := 5) C dX5_differentImages_4 rfl rfl ?_
  refine zg_aload_n (q := 6) C dX5_differentImages_5 rfl rfl ?_
  refine zg_get (j := 2) (q := 9) C bX5 (by decide) lkX5_32 dX5_differentImages_6 rfl (okI.get v.1) ?_
  have v := v.2
  refine zg_icmp_ge (t := 30) (q := 12) C dX5_differentImages_9 (by decide) rfl (fun c => ?_) (fun c => ?_)
  · have v := v.1 c
    refine zg_iload_n (q := 31) C dX5_differentImages_30 rfl rfl ?_
    exact zg_iret C rfl dX5_differentImages_31 ⟨Nat.le_refl _, Nat.le_refl _⟩ ⟨_, rfl, v⟩
  · have v := v.2 c
    refine zg_aload_n (q := 13) C dX5_differentImages_12 rfl rfl ?_
    refine zg_iload_n (q := 14) C dX5_differentImages_13 rfl rfl ?_
    refine zg_iload_n (q := 15) C dX5_differentImages_14 rfl rfl ?_
    refine zg_cV2I (q := 18) C mX5_isRepeated vX5_isRepeated lmX5_60 rfl (bX5).1 v.1 (Nat.le_of_ble_eq_true rfl) ⟨Nat.le_refl _, Nat.le_refl _⟩ dX5_differentImages_15 rfl v.2 (fun r2 h1 v => ?_)
    refine zg_if_ne (t := 24) (q := 21) C dX5_differentImages_18 (by decide) rfl (fun c => ?_) (fun c => ?_)
    · have v := v.1 c
      refine zg_iinc (v := 1) (q := 27) C dX5_differentImages_24 rfl (by decide) (by decide) rfl ?_
      refine zg_goto (t := 4) C dX5_differentImages_27 (by decide) ?_
      exact zg_mask [true, true, true, true] v
    · have v := v.2 c
      refine zg_iinc (v := 1) (q := 24) C dX5_differentImages_21 rfl (by decide) (by decide) rfl ?_
      refine zg_iinc (v := 1) (q := 27) C dX5_differentImages_24 rfl (by decide) (by decide) rfl ?_
      refine zg_goto (t := 4) C dX5_differentImages_27 (by decide) ?_
      exact zg_mask [true, true, true, true] v
theorem rnX5_differentImages {E : Wd} {d : Nat} {a0 : Nat} {x1 : Int32} {h : Hp} {Q : Int32 → Hp → Prop} (k : ∀ (K4 : Nat → Int32 → Int32 → Int32 → Hp → Prop),(∀ (a0 : Nat) (x1 : Int32) (x2 : Int32) (x3 : Int32) h, vcX5_differentImages_4 E d K4 a0 x1 x2 x3 h Q → K4 a0 x1 x2 x3 h) → vcX5_differentImages_0 E d K4 a0 x1 h Q) : OkI E YX5_differentImages (d + 1) [.ref a0, .int x1] h Q :=
  zz_body2 (r := 2) mX5_differentImages (zc_a (zc_i zc_n)) (Nat.le_of_ble_eq_true rfl) (fun X C => zsX5_differentImages_0 C a0 x1 h (k (zkX5_differentImages_4 E X) (fun a0 x1 x2 x3 h v => zsX5_differentImages_4 C a0 x1 x2 x3 h v)))
