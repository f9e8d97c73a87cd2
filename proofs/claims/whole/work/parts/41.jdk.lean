abbrev YJ0_indexOf_7cf53 : My := (yJ0_indexOf_7cf53, cJ0_indexOf_7cf53, 3, (some .int))
theorem mJ0_indexOf_7cf53 : zz_M YJ0_indexOf_7cf53 2 := ⟨by decide +kernel, (zz_mem (i := 260) (by decide +kernel) (by decide +kernel)), (zz_mem (i := 90) (by decide +kernel) (by decide +kernel)), by decide +kernel, by decide⟩
theorem vJ0_indexOf_7cf53 : zz_V YJ0_indexOf_7cf53 := ⟨(zz_mem (i := 258) (by decide +kernel) (by decide +kernel)), (zz_mem (i := 259) (by decide +kernel) (by decide +kernel))⟩
abbrev YJ0_isLatin1_aae02 : My := (yJ0_isLatin1_aae02, cJ0_isLatin1_aae02, 1, (some .boolean))
theorem mJ0_isLatin1_aae02 : zz_M YJ0_isLatin1_aae02 0 := ⟨by decide +kernel, (zz_mem (i := 264) (by decide +kernel) (by decide +kernel)), (zz_mem (i := 90) (by decide +kernel) (by decide +kernel)), by decide +kernel, by decide⟩
theorem vJ0_isLatin1_aae02 : zz_V YJ0_isLatin1_aae02 := ⟨(zz_mem (i := 262) (by decide +kernel) (by decide +kernel)), (zz_mem (i := 263) (by decide +kernel) (by decide +kernel))⟩
abbrev YJ0_length_8abf5 : My := (yJ0_length_8abf5, cJ0_length_8abf5, 1, (some .int))
theorem mJ0_length_8abf5 : zz_M YJ0_length_8abf5 0 := ⟨by decide +kernel, (zz_mem (i := 270) (by decide +kernel) (by decide +kernel)), (zz_mem (i := 90) (by decide +kernel) (by decide +kernel)), by decide +kernel, by decide⟩
theorem vJ0_length_8abf5 : zz_V YJ0_length_8abf5 := ⟨(zz_mem (i := 268) (by decide +kernel) (by decide +kernel)), (zz_mem (i := 269) (by decide +kernel) (by decide +kernel))⟩
abbrev YJ0_coder_7d493 : My := (yJ0_coder_7d493, cJ0_coder_7d493, 1, (some .byte))
theorem mJ0_coder_7d493 : zz_M YJ0_coder_7d493 0 := ⟨by decide +kernel, (zz_mem (i := 274) (by decide +kernel) (by decide +kernel)), (zz_mem (i := 90) (by decide +kernel) (by decide +kernel)), by decide +kernel, by decide⟩
theorem vJ0_coder_7d493 : zz_V YJ0_coder_7d493 := ⟨(zz_mem (i := 272) (by decide +kernel) (by decide +kernel)), (zz_mem (i := 273) (by decide +kernel) (by decide +kernel))⟩
abbrev YJ1_indexOf_4cfef : My := (yJ1_indexOf_4cfef, cJ1_indexOf_4cfef, 4, (some .int))
theorem mJ1_indexOf_4cfef : zz_M YJ1_indexOf_4cfef 4 := ⟨by decide +kernel, (zz_mem (i := 277) (by decide +kernel) (by decide +kernel)), (zz_mem (i := 91) (by decide +kernel) (by decide +kernel)), by decide +kernel, by decide⟩
theorem tJ1_indexOf_4cfef : Cond.static YJ1_indexOf_4cfef.1 ∈ zz_W := (zz_mem (i := 276) (by decide +kernel) (by decide +kernel))
abbrev YJ1_canEncode_9a6ad : My := (yJ1_canEncode_9a6ad, cJ1_canEncode_9a6ad, 1, (some .boolean))
theorem mJ1_canEncode_9a6ad : zz_M YJ1_canEncode_9a6ad 1 := ⟨by decide +kernel, (zz_mem (i := 280) (by decide +kernel) (by decide +kernel)), (zz_mem (i := 91) (by decide +kernel) (by decide +kernel)), by decide +kernel, by decide⟩
theorem tJ1_canEncode_9a6ad : Cond.static YJ1_canEncode_9a6ad.1 ∈ zz_W := (zz_mem (i := 279) (by decide +kernel) (by decide +kernel))
abbrev YJ1_indexOfChar_4cfef : My := (yJ1_indexOfChar_4cfef, cJ1_indexOfChar_4cfef, 6, (some .int))
theorem mJ1_indexOfChar_4cfef : zz_M YJ1_indexOfChar_4cfef 4 := ⟨by decide +kernel, (zz_mem (i := 287) (by decide +kernel) (by decide +kernel)), (zz_mem (i := 91) (by decide +kernel) (by decide +kernel)), by decide +kernel, by decide⟩
theorem tJ1_indexOfChar_4cfef : Cond.static YJ1_indexOfChar_4cfef.1 ∈ zz_W := (zz_mem (i := 286) (by decide +kernel) (by decide +kernel))
theorem lmJ0_633 : Cond.methodLink RJ0 633 yJ0_indexOf_7cf53 ∈ zz_W := (zz_mem (i := 257) (by decide +kernel) (by decide +kernel))
theorem lmJ0_492 : Cond.methodLink RJ0 492 yJ0_isLatin1_aae02 ∈ zz_W := (zz_mem (i := 261) (by decide +kernel) (by decide +kernel))
theorem lmJ0_505 : Cond.methodLink RJ0 505 yJ0_length_8abf5 ∈ zz_W := (zz_mem (i := 267) (by decide +kernel) (by decide +kernel))
theorem lmJ0_335 : Cond.methodLink RJ0 335 yJ0_coder_7d493 ∈ zz_W := (zz_mem (i := 271) (by decide +kernel) (by decide +kernel))
theorem lmJ0_637 : Cond.methodLink RJ0 637 yJ1_indexOf_4cfef ∈ zz_W := (zz_mem (i := 275) (by decide +kernel) (by decide +kernel))
theorem lmJ1_88 : Cond.methodLink RJ1 88 yJ1_canEncode_9a6ad ∈ zz_W := (zz_mem (i := 278) (by decide +kernel) (by decide +kernel))
theorem lmJ1_95 : Cond.methodLink RJ1 95 yJ1_indexOfChar_4cfef ∈ zz_W := (zz_mem (i := 285) (by decide +kernel) (by decide +kernel))
theorem lkJ0_9 : Cond.fieldLink RJ0 9 "java/lang/String" "value" "[B" ∈ zz_W := (zz_mem (i := 1394) (by decide +kernel) (by decide +kernel))
theorem lkJ0_15 : Cond.fieldLink RJ0 15 "java/lang/String" "coder" "B" ∈ zz_W := (zz_mem (i := 1393) (by decide +kernel) (by decide +kernel))
theorem lkJ0_38 : Cond.fieldLink RJ0 38 "java/lang/String" "COMPACT_STRINGS" "Z" ∈ zz_W := (zz_mem (i := 265) (by decide +kernel) (by decide +kernel))
theorem maJ1_92 : Cond.methodLink RJ1 92 Lib.Math.max.name ∈ zz_W ∧ Cond.static Lib.Math.max.name ∈ zz_W ∧ Cond.initialized "java/lang/Math" ∈ zz_W ∧ Cond.code Lib.Math.max.name Lib.Math.max.code 2 (some .int) ∈ zz_W := ⟨(zz_mem (i := 281) (by decide +kernel) (by decide +kernel)), (zz_mem (i := 282) (by decide +kernel) (by decide +kernel)), (zz_mem (i := 89) (by decide +kernel) (by decide +kernel)), (zz_mem (i := 283) (by decide +kernel) (by decide +kernel))⟩
theorem maJ1_38 : Cond.methodLink RJ1 38 Lib.Math.min.name ∈ zz_W ∧ Cond.static Lib.Math.min.name ∈ zz_W ∧ Cond.initialized "java/lang/Math" ∈ zz_W ∧ Cond.code Lib.Math.min.name Lib.Math.min.code 2 (some .int) ∈ zz_W := ⟨(zz_mem (i := 284) (by decide +kernel) (by decide +kernel)), (zz_mem (i := 175) (by decide +kernel) (by decide +kernel)), (zz_mem (i := 89) (by decide +kernel) (by decide +kernel)), (zz_mem (i := 176) (by decide +kernel) (by decide +kernel))⟩
theorem ckJ6_265 : Cond.constant RJ6 265 (1431655765) ∈ zz_W := (zz_mem (i := 613) (by decide +kernel) (by decide +kernel))
theorem ckJ6_266 : Cond.constant RJ6 266 (858993459) ∈ zz_W := (zz_mem (i := 614) (by decide +kernel) (by decide +kernel))
theorem ckJ6_267 : Cond.constant RJ6 267 (252645135) ∈ zz_W := (zz_mem (i := 615) (by decide +kernel) (by decide +kernel))
section
variable {E : Wd} {X : Mx} {Y : My} {d mc ms nL k n pc q : Nat} {Q : Option Value → Hp → Prop} {L : List (Option Value)} {st : List Value} {h : Hp}
theorem zj_keep (C : zz_C E X Y d mc ms Q) {H : Heap} (hR : zz_R E h H) : ∀ a : Nat, a < (eH E).size → ¬ (fun q => eZ E ≤ q) a → H[a]? = (eH E)[a]? := zz_below hR (fun _ e => e)
theorem zj_val (C : zz_C E X Y d mc ms Q) (hk : Cond.fieldLink Y.1.cls 9 "java/lang/String" "value" "[B" ∈ zz_W) (hd : decode Y.2.1 pc = .ok (.getfield 9, 3)) (hq : pc + 3 = q) (g : GG E X nL k n q L (.ref (eV E) :: st) h) : GG E X nL k n pc L (.ref (eS E) :: st) h := by
  subst hq
  intro H locs ls hR hl hL
  obtain ⟨cf, kk, fi, f, cell, h1, h2, h3, h4, h5, h6⟩ := (C.2.2.2.2.2.1.2.1.2.2.1.1 0 (by decide)).2.2.1.kept (zj_keep C hR)
  exact W.getf C.1 C.2.1 C.2.2.2.1 (C.2.2.2.2.1 _ hk) h1 h2 h3 h4 h5 rfl rfl hd (g H locs ls hR hl hL)
theorem zj_cod (C : zz_C E X Y d mc ms Q) (hk : Cond.fieldLink Y.1.cls 15 "java/lang/String" "coder" "B" ∈ zz_W) (hd : decode Y.2.1 pc = .ok (.getfield 15, 3)) (hq : pc + 3 = q) (g : GG E X nL k n q L (.int 0 :: st) h) : GG E X nL k n pc L (.ref (eS E) :: st) h := by
  subst hq
  intro H locs ls hR hl hL
  obtain ⟨cf, kk, fi, f, cell, h1, h2, h3, h4, h5, h6⟩ := (C.2.2.2.2.2.1.2.1.2.2.1.1 0 (by decide)).2.1.kept (zj_keep C hR)
  exact W.getf C.1 C.2.1 C.2.2.2.1 (C.2.2.2.2.1 _ hk) h1 h2 h3 h4 h5 rfl rfl hd (g H locs ls hR hl hL)
theorem zj_com (C : zz_C E X Y d mc ms Q) (hk : Cond.fieldLink Y.1.cls 38 "java/lang/String" "COMPACT_STRINGS" "Z" ∈ zz_W) (hd : decode Y.2.1 pc = .ok (.getstatic 38, 3)) (hq : pc + 3 = q) (g : GG E X nL k n q L (.int 1 :: st) h) : GG E X nL k n pc L st h := by
  subst hq
  intro H locs ls hR hl hL
  obtain ⟨cf, kf, fi, f, a, cell, h1, h2, h3, h4, h5, h6, h7, h8⟩ := C.2.2.2.2.2.1.2.1.2.2.2.kept (zj_keep C hR)
  exact W.gets C.1 C.2.1 C.2.2.2.1 (C.2.2.2.2.1 _ hk) h1 h2 h3 h4 h5 (fun e => by rw [e] at h6; cases h6) h7 rfl hd (g H locs ls hR hl hL)
theorem zj_len (C : zz_C E X Y d mc ms Q) (hd : decode Y.2.1 pc = .ok (.arraylength, 1)) (hq : pc + 1 = q) (g : GG E X nL k n q L (.int 10 :: st) h) : GG E X nL k n pc L (.ref (eV E) :: st) h := by
  subst hq
  intro H locs ls hR hl hL
  obtain ⟨cell, h1, h2, h3, h4, h5, h6, h7⟩ := (C.2.2.2.2.2.1.2.1.2.2.1.1 0 (by decide)).2.2.2.kept (zj_keep C hR)
  exact W.alen (n := 10) C.1 C.2.1 h1 h2 (h5.trans (by decide)) rfl rfl hd (g H locs ls hR hl hL)
theorem zj_byt {i : Nat} (C : zz_C E X Y d mc ms Q) (hi : i < 10) (hd : decode Y.2.1 pc = .ok (.baload, 1)) (hq : pc + 1 = q) (g : GG E X nL k n q L (.int (zz_txt.getD i 0) :: st) h) : GG E X nL k n pc L (.int (nI i) :: .ref (eV E) :: st) h := by
  subst hq
  intro H locs ls hR hl hL
  obtain ⟨cell, h1, h2, h3, h4, h5, h6, h7⟩ := (C.2.2.2.2.2.1.2.1.2.2.1.1 0 (by decide)).2.2.2.kept (zj_keep C hR)
  have h4' : 10 ≤ cell.slots.size := h4
  refine W.bald (v := .int (zz_txt.getD i 0)) C.1 C.2.1 h1 h2 h3 ?_ ?_ rfl rfl hd (g H locs ls hR hl hL)
  · rintro (e | e)
    · exact nI_pos (by omega) e
    · rw [n_cl (n := i)] at e; omega
  · rw [n_cl (n := i)]
    exact h6 i hi
theorem zj_i2b {x : Int32} {v : Int32} (C : zz_C E X Y d mc ms Q) (hd : decode Y.2.1 pc = .ok (.i2b, 1)) (hv : x.toInt8.toInt32 = v) (hq : pc + 1 = q) (g : GG E X nL k n q L (.int v :: st) h) : GG E X nL k n pc L (.int x :: st) h := by
  subst hq
  intro H locs ls hR hl hL
  exact lv_i2b C.1 C.2.1 hd hv (g H locs ls hR hl hL)
theorem zj_ldcw {idx : Nat} {v : Int32} (C : zz_C E X Y d mc ms Q) (hk : Cond.constant Y.1.cls idx v ∈ zz_W) (hd : decode Y.2.1 pc = .ok (.ldc_w idx, 3)) (hq : pc + 3 = q) (g : GG E X nL k n q L (.int v :: st) h) : GG E X nL k n pc L st h := by
  subst hq
  intro H locs ls hR hl hL
  exact lv_ldcw C.1 C.2.1 C.2.2.2.1 (C.2.2.2.2.1 _ hk) hd (g H locs ls hR hl hL)
theorem zj_bret (C : zz_C E X Y d mc ms Q) (hret : Y.2.2.2 = some .byte) (hd : decode Y.2.1 pc = .ok (.ireturn, 1)) (hc : k ≤ mc ∧ n ≤ ms) (hQ : Q (some (.int 0)) h) : GG E X nL k n pc L [.int 0] h := by
  intro H locs ls hR hl hL
  obtain ⟨c1, c2, c3, c4, c5, c6, c7, c8, c9, c10, c11⟩ := C
  show W _ _ _ _ _ _ _ _ _ _ _ _ _ _ (xQ X) _
  rw [c11]
  exact W.widen hc.1 hc.2 (W.zret c1 c2 (c8.trans hret) rfl (fun t ht hW => ⟨_, h, rfl, by rw [ht]; exact hR, hQ⟩) hl hd c9)
theorem zj_cT0 {Yc : My} {idx b : Nat} {F : Int32 → Hp → Prop} (C : zz_C E X Y (d + 1) mc ms Q) (M : zz_M Yc 0) (V : zz_V Yc) (hk : Cond.methodLink Y.1.cls idx Yc.1 ∈ zz_W) (hnL : Y.2.2.1 = nL) (ho : b = eS E) (hcl : Yc.1.cls = "java/lang/String") (hrest : st.length ≤ 4) (hc : k ≤ mc ∧ n ≤ ms) (hd : decode Y.2.1 pc = .ok (.invokevirtual idx, 3)) (hq : pc + 3 = q) (ok : OkI E Yc d [.ref b] h F) (kk : ∀ x h', F x h' → GG E X nL k n q L (.int x :: st) h') : GG E X nL k n pc L (.ref b :: st) h :=
  zz_callT (mc' := 0) (ms' := 0) (av := []) C M V hk hnL ho hcl rfl rfl hrest (Nat.le_refl _) hd hq hc ok (fun r h' f => by obtain ⟨x, e, f⟩ := f; subst e; exact kk x h' f)
theorem zj_cT2 {Yc : My} {idx b : Nat} {v1 v2 : Value} {F : Int32 → Hp → Prop} (C : zz_C E X Y (d + 1) mc ms Q) (M : zz_M Yc 2) (V : zz_V Yc) (hk : Cond.methodLink Y.1.cls idx Yc.1 ∈ zz_W) (hnL : Y.2.2.1 = nL) (ho : b = eS E) (hcl : Yc.1.cls = "java/lang/String") (hrest : st.length ≤ 4) (hc : k ≤ mc ∧ n ≤ ms) (hd : decode Y.2.1 pc = .ok (.invokevirtual idx, 3)) (hq : pc + 3 = q) (ok : OkI E Yc d [.ref b, v1, v2] h F) (kk : ∀ x h', F x h' → GG E X nL k n q L (.int x :: st) h') : GG E X nL k n pc L (v2 :: v1 :: .ref b :: st) h :=
  zz_callT (mc' := 0) (ms' := 0) (av := [v1, v2]) C M V hk hnL ho hcl rfl rfl hrest (Nat.le_refl _) hd hq hc ok (fun r h' f => by obtain ⟨x, e, f⟩ := f; subst e; exact kk x h' f)
end
def lxF (c : Nat) : Nat → Nat → Option Nat
  | 0, _ => none
  | r + 1, i => if zz_txt.getD i 0 = nI c then some i else lxF c r (i + 1)
def lix (c : Nat) : Option Nat := lxF c 10 0
def lxI : Option Nat → Int32
  | none => -1
  | some i => nI i
section
variable {E : Wd} {d : Nat} {h : Hp}
theorem j_i2b : ∀ c, c < 128 → (nI c).toInt8.toInt32 = nI c := by decide +kernel
theorem j_isLatin1 {Q : Int32 → Hp → Prop} (hq : Q 1 h) : OkI E YJ0_isLatin1_aae02 d [.ref (eS E)] h Q :=
  zz_body2 (r := 0) mJ0_isLatin1_aae02 (zc_a zc_n) (Nat.le_of_ble_eq_true rfl) (fun X C => by
    refine zj_com (q := 3) C lkJ0_38 dJ0_isLatin1_aae02_0 rfl ?_
    refine zg_if_eq (t := 17) (q := 6) C dJ0_isLatin1_aae02_3 (by decide) rfl (fun c => absurd c (by decide)) (fun _ => ?_)
    refine zg_aload_n (q := 7) C dJ0_isLatin1_aae02_6 rfl rfl ?_
    refine zj_cod (q := 10) C lkJ0_15 dJ0_isLatin1_aae02_7 rfl ?_
    refine zg_if_ne (t := 17) (q := 13) C dJ0_isLatin1_aae02_10 (by decide) rfl (fun c => absurd rfl c) (fun _ => ?_)
    refine zg_iconst (v := 1) (q := 14) C dJ0_isLatin1_aae02_13 (by decide) rfl ?_
    refine zg_goto (t := 18) C dJ0_isLatin1_aae02_14 (by decide) ?_
    exact zg_zret C rfl dJ0_isLatin1_aae02_18 ⟨Nat.le_refl _, Nat.le_refl _⟩ (Or.inr rfl) ⟨_, rfl, hq⟩)
theorem j_coder {Q : Int32 → Hp → Prop} (hq : Q 0 h) : OkI E YJ0_coder_7d493 d [.ref (eS E)] h Q :=
  zz_body2 (r := 0) mJ0_coder_7d493 (zc_a zc_n) (Nat.le_of_ble_eq_true rfl) (fun X C => by
    refine zj_com (q := 3) C lkJ0_38 dJ0_coder_7d493_0 rfl ?_
    refine zg_if_eq (t := 13) (q := 6) C dJ0_coder_7d493_3 (by decide) rfl (fun c => absurd c (by decide)) (fun _ => ?_)
    refine zg_aload_n (q := 7) C dJ0_coder_7d493_6 rfl rfl ?_
    refine zj_cod (q := 10) C lkJ0_15 dJ0_coder_7d493_7 rfl ?_
    refine zg_goto (t := 14) C dJ0_coder_7d493_10 (by decide) ?_
    exact zj_bret C rfl dJ0_coder_7d493_14 ⟨Nat.le_refl _, Nat.le_refl _⟩ ⟨_, rfl, hq⟩)
theorem j_length {Q : Int32 → Hp → Prop} (hq : Q 10 h) : OkI E YJ0_length_8abf5 (d + 1) [.ref (eS E)] h Q :=
  zz_body2 (r := 0) mJ0_length_8abf5 (zc_a zc_n) (Nat.le_of_ble_eq_true rfl) (fun X C => by
    refine zg_aload_n (q := 1) C dJ0_length_8abf5_0 rfl rfl ?_
    refine zj_val (q := 4) C lkJ0_9 dJ0_length_8abf5_1 rfl ?_
    refine zj_len (q := 5) C dJ0_length_8abf5_4 rfl ?_
    refine zg_aload_n (q := 6) C dJ0_length_8abf5_5 rfl rfl ?_
    refine zj_cT0 (q := 9) C mJ0_coder_7d493 vJ0_coder_7d493 lmJ0_335 rfl rfl rfl (Nat.le_of_ble_eq_true rfl) ⟨Nat.le_refl _, Nat.le_refl _⟩ dJ0_length_8abf5_6 rfl (j_coder (Q := fun x h' => x = 0 ∧ h' = h) ⟨rfl, rfl⟩) (fun x h' e => ?_)
    obtain ⟨rfl, rfl⟩ := e
    refine zg_ishr (q := 10) C dJ0_length_8abf5_9 rfl ?_
    exact zg_iret C rfl dJ0_length_8abf5_10 ⟨Nat.le_refl _, Nat.le_refl _⟩ ⟨_, rfl, hq⟩)
theorem j_canEncode {Q : Int32 → Hp → Prop} {c : Nat} (hc : c < 128) (hq : Q 1 h) : OkI E YJ1_canEncode_9a6ad d [.int (nI c)] h Q :=
  zz_body2 (r := 0) mJ1_canEncode_9a6ad (zc_i zc_n) (Nat.le_of_ble_eq_true rfl) (fun X C => by
    refine zg_iload_n (q := 1) C dJ1_canEncode_9a6ad_0 rfl rfl ?_
    refine zg_if_lt (t := 15) (q := 4) C dJ1_canEncode_9a6ad_1 (by decide) rfl (fun e => absurd e (nI_pos (by omega))) (fun _ => ?_)
    refine zg_iload_n (q := 5) C dJ1_canEncode_9a6ad_4 rfl rfl ?_
    refine zg_sipush (v := 255) (q := 8) C dJ1_canEncode_9a6ad_5 (by decide) rfl ?_
    refine zg_icmp_gt (t := 15) (q := 11) C dJ1_canEncode_9a6ad_8 (by decide) rfl (fun e => absurd e (nI_nlt (a := 255) (b := c) (by omega) (by omega))) (fun _ => ?_)
    refine zg_iconst (v := 1) (q := 12) C dJ1_canEncode_9a6ad_11 (by decide) rfl ?_
    refine zg_goto (t := 16) C dJ1_canEncode_9a6ad_12 (by decide) ?_
    exact zg_zret C rfl dJ1_canEncode_9a6ad_16 ⟨Nat.le_refl _, Nat.le_refl _⟩ (Or.inr rfl) ⟨_, rfl, hq⟩)
theorem j_indexOfChar {Q : Int32 → Hp → Prop} {c : Nat} (hc : c < 128) (hq : Q (lxI (lix c)) h) : OkI E YJ1_indexOfChar_4cfef d [.ref (eV E), .int (nI c), .int 0, .int 10] h Q :=
  zz_body2 (r := 2) mJ1_indexOfChar_4cfef (zc_a (zc_i (zc_i (zc_i zc_n)))) (Nat.le_of_ble_eq_true rfl) (fun X C => by
    refine zg_iload_n (q := 1) C dJ1_indexOfChar_4cfef_0 rfl rfl ?_
    refine zj_i2b (q := 2) C dJ1_indexOfChar_4cfef_1 (j_i2b c hc) rfl ?_
    refine zg_istore (q := 4) C dJ1_indexOfChar_4cfef_2 (by decide) rfl ?_
    refine zg_iload_n (q := 5) C dJ1_indexOfChar_4cfef_4 rfl rfl ?_
    refine zg_istore (q := 7) C dJ1_indexOfChar_4cfef_5 (by decide) rfl ?_
    have loop : ∀ r i, r + i = 10 → lxF c r i = lix c → GG E X 6 0 0 7 [some (.ref (eV E)), some (.int (nI c)), some (.int 0), some (.int 10), some (.int (nI c)), some (.int (nI i))] [] h := by
      intro r
      induction r with
      | zero =>
        intro i e hl
        have e : i = 10 := by omega
        subst e
        refine zg_iload (q := 9) C dJ1_indexOfChar_4cfef_7 rfl rfl ?_
        refine zg_iload_n (q := 10) C dJ1_indexOfChar_4cfef_9 rfl rfl ?_
        refine zg_icmp_ge (t := 31) (q := 13) C dJ1_indexOfChar_4cfef_10 (by decide) rfl (fun _ => ?_) (fun e => absurd e (by decide))
        refine zg_iconst (v := -1) (q := 32) C dJ1_indexOfChar_4cfef_31 (by decide) rfl ?_
        exact zg_iret C rfl dJ1_indexOfChar_4cfef_32 ⟨Nat.le_refl _, Nat.le_refl _⟩ ⟨_, rfl, by rw [← hl] at hq; exact hq⟩
      | succ r ih =>
        intro i e hl
        refine zg_iload (q := 9) C dJ1_indexOfChar_4cfef_7 rfl rfl ?_
        refine zg_iload_n (q := 10) C dJ1_indexOfChar_4cfef_9 rfl rfl ?_
        refine zg_icmp_ge (t := 31) (q := 13) C dJ1_indexOfChar_4cfef_10 (by decide) rfl (fun e2 => absurd (nI_lt (a := i) (b := 10) (by omega) (by omega)) (fun z => by first | exact e2 z | exact absurd z (Int32.not_lt.mpr e2))) (fun _ => ?_)
        refine zg_aload_n (q := 14) C dJ1_indexOfChar_4cfef_13 rfl rfl ?_
        refine zg_iload (q := 16) C dJ1_indexOfChar_4cfef_14 rfl rfl ?_
        refine zj_byt (i := i) (q := 17) C (by omega) dJ1_indexOfChar_4cfef_16 rfl ?_
        refine zg_iload (q := 19) C dJ1_indexOfChar_4cfef_17 rfl rfl ?_
        rw [lxF] at hl
        refine zg_icmp_ne (t := 25) (q := 22) C dJ1_indexOfChar_4cfef_19 (by decide) rfl (fun e2 => ?_) (fun e2 => ?_)
        · refine zg_iinc (v := 1) (q := 28) C dJ1_indexOfChar_4cfef_25 rfl (by decide) (by decide) rfl ?_
          refine zg_goto (t := 7) C dJ1_indexOfChar_4cfef_28 (by decide) ?_
          rw [if_neg e2] at hl
          have := ih (i + 1) (by omega) hl
          rw [← nI_1] at this
          exact this
        · have e2 : zz_txt.getD i 0 = nI c := by first | exact e2 | exact Decidable.not_not.mp e2
          rw [if_pos e2] at hl
          refine zg_iload (q := 24) C dJ1_indexOfChar_4cfef_22 rfl rfl ?_
          exact zg_iret C rfl dJ1_indexOfChar_4cfef_24 ⟨Nat.le_refl _, Nat.le_refl _⟩ ⟨_, rfl, by rw [← hl] at hq; exact hq⟩
    exact loop 10 0 rfl rfl)
theorem j_indexOf4 {Q : Int32 → Hp → Prop} {c : Nat} (hc : c < 128) (hq : Q (lxI (lix c)) h) : OkI E YJ1_indexOf_4cfef (d + 1) [.ref (eV E), .int (nI c), .int 0, .int 10] h Q :=
  zz_body2 (r := 0) mJ1_indexOf_4cfef (zc_a (zc_i (zc_i (zc_i zc_n)))) (Nat.le_of_ble_eq_true rfl) (fun X C => by
    refine zg_iload_n (q := 1) C dJ1_indexOf_4cfef_0 rfl rfl ?_
    refine zg_cS1I (q := 4) C mJ1_canEncode_9a6ad tJ1_canEncode_9a6ad lmJ1_88 rfl (Nat.le_of_ble_eq_true rfl) ⟨Nat.le_refl _, Nat.le_refl _⟩ dJ1_indexOf_4cfef_1 rfl (j_canEncode (Q := fun x h' => x = 1 ∧ h' = h) hc ⟨rfl, rfl⟩) (fun x h' e => ?_)
    obtain ⟨rfl, rfl⟩ := e
    refine zg_if_ne (t := 9) (q := 7) C dJ1_indexOf_4cfef_4 (by decide) rfl (fun _ => ?_) (fun e => absurd e (by decide))
    refine zg_iload_n (q := 10) C dJ1_indexOf_4cfef_9 rfl rfl ?_
    refine zg_iconst (v := 0) (q := 11) C dJ1_indexOf_4cfef_10 (by decide) rfl ?_
    refine zg_max (q := 14) C maJ1_92 rfl (by omega) (Nat.le_of_ble_eq_true rfl) ⟨Nat.le_refl _, Nat.le_refl _⟩ dJ1_indexOf_4cfef_11 rfl ?_
    rw [show (if (0 : Int32) < 0 then (0 : Int32) else 0) = 0 by decide]
    refine zg_istore_n (q := 15) C dJ1_indexOf_4cfef_14 (by decide) rfl ?_
    refine zg_iload_n (q := 16) C dJ1_indexOf_4cfef_15 rfl rfl ?_
    refine zg_aload_n (q := 17) C dJ1_indexOf_4cfef_16 rfl rfl ?_
    refine zj_len (q := 18) C dJ1_indexOf_4cfef_17 rfl ?_
    refine zg_min (q := 21) C maJ1_38 rfl (by omega) (Nat.le_of_ble_eq_true rfl) ⟨Nat.le_refl _, Nat.le_refl _⟩ dJ1_indexOf_4cfef_18 rfl ?_
    refine zg_istore_n (q := 22) C dJ1_indexOf_4cfef_21 (by decide) rfl ?_
    refine zg_iload_n (q := 23) C dJ1_indexOf_4cfef_22 rfl rfl ?_
    refine zg_iload_n (q := 24) C dJ1_indexOf_4cfef_23 rfl rfl ?_
    refine zg_icmp_lt (t := 29) (q := 27) C dJ1_indexOf_4cfef_24 (by decide) rfl (fun _ => ?_) (fun e => absurd (by decide) e)
    refine zg_aload_n (q := 30) C dJ1_indexOf_4cfef_29 rfl rfl ?_
    refine zg_iload_n (q := 31) C dJ1_indexOf_4cfef_30 rfl rfl ?_
    refine zg_iload_n (q := 32) C dJ1_indexOf_4cfef_31 rfl rfl ?_
    refine zg_iload_n (q := 33) C dJ1_indexOf_4cfef_32 rfl rfl ?_
    refine zg_cS4I (q := 36) C mJ1_indexOfChar_4cfef tJ1_indexOfChar_4cfef lmJ1_95 rfl (Nat.le_of_ble_eq_true rfl) ⟨Nat.le_refl _, Nat.le_refl _⟩ dJ1_indexOf_4cfef_33 rfl (j_indexOfChar (Q := Q) hc hq) (fun x h' e => ?_)
    exact zg_iret C rfl dJ1_indexOf_4cfef_36 ⟨Nat.le_refl _, Nat.le_refl _⟩ ⟨_, rfl, e⟩)
theorem j_indexOf2 {Q : Int32 → Hp → Prop} {c : Nat} (hc : c < 128) (hq : Q (lxI (lix c)) h) : OkI E YJ0_indexOf_7cf53 (d + 2) [.ref (eS E), .int (nI c), .int 0] h Q :=
  zz_body2 (r := 0) mJ0_indexOf_7cf53 (zc_a (zc_i (zc_i zc_n))) (Nat.le_of_ble_eq_true rfl) (fun X C => by
    refine zg_aload_n (q := 1) C dJ0_indexOf_7cf53_0 rfl rfl ?_
    refine zj_cT0 (q := 4) C mJ0_isLatin1_aae02 vJ0_isLatin1_aae02 lmJ0_492 rfl rfl rfl (Nat.le_of_ble_eq_true rfl) ⟨Nat.le_refl _, Nat.le_refl _⟩ dJ0_indexOf_7cf53_1 rfl (j_isLatin1 (Q := fun x h' => x = 1 ∧ h' = h) ⟨rfl, rfl⟩) (fun x h' e => ?_)
    obtain ⟨rfl, rfl⟩ := e
    refine zg_if_eq (t := 23) (q := 7) C dJ0_indexOf_7cf53_4 (by decide) rfl (fun e => absurd e (by decide)) (fun _ => ?_)
    refine zg_aload_n (q := 8) C dJ0_indexOf_7cf53_7 rfl rfl ?_
    refine zj_val (q := 11) C lkJ0_9 dJ0_indexOf_7cf53_8 rfl ?_
    refine zg_iload_n (q := 12) C dJ0_indexOf_7cf53_11 rfl rfl ?_
    refine zg_iload_n (q := 13) C dJ0_indexOf_7cf53_12 rfl rfl ?_
    refine zg_aload_n (q := 14) C dJ0_indexOf_7cf53_13 rfl rfl ?_
    refine zj_cT0 (q := 17) C mJ0_length_8abf5 vJ0_length_8abf5 lmJ0_505 rfl rfl rfl (Nat.le_of_ble_eq_true rfl) ⟨Nat.le_refl _, Nat.le_refl _⟩ dJ0_indexOf_7cf53_14 rfl (j_length (Q := fun x h'' => x = 10 ∧ h'' = h') ⟨rfl, rfl⟩) (fun x h'' e => ?_)
    obtain ⟨rfl, rfl⟩ := e
    refine zg_cS4I (q := 20) C mJ1_indexOf_4cfef tJ1_indexOf_4cfef lmJ0_637 rfl (Nat.le_of_ble_eq_true rfl) ⟨Nat.le_refl _, Nat.le_refl _⟩ dJ0_indexOf_7cf53_17 rfl (j_indexOf4 (Q := Q) hc hq) (fun x h' e => ?_)
    refine zg_goto (t := 36) C dJ0_indexOf_7cf53_20 (by decide) ?_
    exact zg_iret C rfl dJ0_indexOf_7cf53_36 ⟨Nat.le_refl _, Nat.le_refl _⟩ ⟨_, rfl, e⟩)
theorem k_sIndexOf {Q : Int32 → Hp → Prop} {c : Nat} (hc : c < 128) (hq : Q (lxI (lix c)) h) : OkI E YJ0_indexOf_0f7a4 (d + 3) [.ref (eS E), .int (nI c)] h Q :=
  zz_body2 (r := 0) mJ0_indexOf_0f7a4 (zc_a (zc_i zc_n)) (Nat.le_of_ble_eq_true rfl) (fun X C => by
    refine zg_aload_n (q := 1) C dJ0_indexOf_0f7a4_0 rfl rfl ?_
    refine zg_iload_n (q := 2) C dJ0_indexOf_0f7a4_1 rfl rfl ?_
    refine zg_iconst (v := 0) (q := 3) C dJ0_indexOf_0f7a4_2 (by decide) rfl ?_
    refine zj_cT2 (q := 6) C mJ0_indexOf_7cf53 vJ0_indexOf_7cf53 lmJ0_633 rfl rfl rfl (Nat.le_of_ble_eq_true rfl) ⟨Nat.le_refl _, Nat.le_refl _⟩ dJ0_indexOf_0f7a4_3 rfl (j_indexOf2 (Q := Q) hc hq) (fun x h' e => ?_)
    exact zg_iret C rfl dJ0_indexOf_0f7a4_6 ⟨Nat.le_refl _, Nat.le_refl _⟩ ⟨_, rfl, e⟩)
end
