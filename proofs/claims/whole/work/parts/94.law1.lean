abbrev YL (nm : String) : My := (⟨RL, nm, "([I)Z"⟩, cL_law, 4, some .boolean)
abbrev lcL (b O M a : Nat) : List (Option Value) := [some (.ref b), some (.ref O), some (.ref M), some (.int (nI a))]
theorem lmL_9 : Cond.methodLink RL 9 yX7_init ∈ zz_W := zz_mem (i := 105) (by decide +kernel) (by decide +kernel)
theorem lmL_12 : Cond.methodLink RL 12 yX8_init ∈ zz_W := zz_mem (i := 986) (by decide +kernel) (by decide +kernel)
theorem lmL_13 : Cond.methodLink RL 13 yX7_feed ∈ zz_W := zz_mem (i := 153) (by decide +kernel) (by decide +kernel)
theorem lmL_17 : Cond.methodLink RL 17 yX8_feed ∈ zz_W := zz_mem (i := 1090) (by decide +kernel) (by decide +kernel)
theorem lmL_18 : Cond.methodLink RL 18 yX7_define ∈ zz_W := zz_mem (i := 164) (by decide +kernel) (by decide +kernel)
theorem lmL_22 : Cond.methodLink RL 22 yX8_define ∈ zz_W := zz_mem (i := 1100) (by decide +kernel) (by decide +kernel)
theorem lmL_23 : Cond.methodLink RL 23 yX7_game ∈ zz_W := zz_mem (i := 745) (by decide +kernel) (by decide +kernel)
theorem lmL_27 : Cond.methodLink RL 27 yX8_game ∈ zz_W := zz_mem (i := 1237) (by decide +kernel) (by decide +kernel)
theorem lmL_28 : Cond.methodLink RL 28 yX7_setup ∈ zz_W := zz_mem (i := 750) (by decide +kernel) (by decide +kernel)
theorem lmL_32 : Cond.methodLink RL 32 yX8_setup ∈ zz_W := zz_mem (i := 1261) (by decide +kernel) (by decide +kernel)
theorem lmL_33 : Cond.methodLink RL 33 yX7_load ∈ zz_W := zz_mem (i := 771) (by decide +kernel) (by decide +kernel)
theorem lmL_36 : Cond.methodLink RL 36 yX8_load ∈ zz_W := zz_mem (i := 1273) (by decide +kernel) (by decide +kernel)
theorem lmL_37 : Cond.methodLink RL 37 yX7_board ∈ zz_W := zz_mem (i := 775) (by decide +kernel) (by decide +kernel)
theorem lmL_40 : Cond.methodLink RL 40 yX8_board ∈ zz_W := zz_mem (i := 1277) (by decide +kernel) (by decide +kernel)
theorem lmL_41 : Cond.methodLink RL 41 yX7_move ∈ zz_W := zz_mem (i := 819) (by decide +kernel) (by decide +kernel)
theorem lmL_45 : Cond.methodLink RL 45 yX8_move ∈ zz_W := zz_mem (i := 1305) (by decide +kernel) (by decide +kernel)
theorem lmL_46 : Cond.methodLink RL 46 yX7_make ∈ zz_W := zz_mem (i := 838) (by decide +kernel) (by decide +kernel)
theorem lmL_49 : Cond.methodLink RL 49 yX8_make ∈ zz_W := zz_mem (i := 1309) (by decide +kernel) (by decide +kernel)
theorem lmL_50 : Cond.methodLink RL 50 yX7_back ∈ zz_W := zz_mem (i := 856) (by decide +kernel) (by decide +kernel)
theorem lmL_53 : Cond.methodLink RL 53 yX8_back ∈ zz_W := zz_mem (i := 1317) (by decide +kernel) (by decide +kernel)
theorem lmL_54 : Cond.methodLink RL 54 yX7_best ∈ zz_W := zz_mem (i := 864) (by decide +kernel) (by decide +kernel)
theorem lmL_57 : Cond.methodLink RL 57 yX8_best ∈ zz_W := zz_mem (i := 1321) (by decide +kernel) (by decide +kernel)
theorem lmL_58 : Cond.methodLink RL 58 yX7_line ∈ zz_W := zz_mem (i := 873) (by decide +kernel) (by decide +kernel)
theorem lmL_61 : Cond.methodLink RL 61 yX8_line ∈ zz_W := zz_mem (i := 1329) (by decide +kernel) (by decide +kernel)
theorem lmL_62 : Cond.methodLink RL 62 yX7_search ∈ zz_W := zz_mem (i := 890) (by decide +kernel) (by decide +kernel)
theorem lmL_65 : Cond.methodLink RL 65 yX8_search ∈ zz_W := zz_mem (i := 1337) (by decide +kernel) (by decide +kernel)
theorem lmL_66 : Cond.methodLink RL 66 yX7_positions ∈ zz_W := zz_mem (i := 899) (by decide +kernel) (by decide +kernel)
theorem lmL_70 : Cond.methodLink RL 70 yX8_positions ∈ zz_W := zz_mem (i := 1345) (by decide +kernel) (by decide +kernel)
theorem lmL_71 : Cond.methodLink RL 71 yX7_spread ∈ zz_W := zz_mem (i := 908) (by decide +kernel) (by decide +kernel)
theorem lmL_74 : Cond.methodLink RL 74 yX8_spread ∈ zz_W := zz_mem (i := 1353) (by decide +kernel) (by decide +kernel)
theorem lmL_75 : Cond.methodLink RL 75 yX7_longest ∈ zz_W := zz_mem (i := 920) (by decide +kernel) (by decide +kernel)
theorem lmL_78 : Cond.methodLink RL 78 yX8_longest ∈ zz_W := zz_mem (i := 1361) (by decide +kernel) (by decide +kernel)
theorem lmL_79 : Cond.methodLink RL 79 yX7_zugzwang ∈ zz_W := zz_mem (i := 929) (by decide +kernel) (by decide +kernel)
theorem lmL_82 : Cond.methodLink RL 82 yX8_zugzwang ∈ zz_W := zz_mem (i := 1365) (by decide +kernel) (by decide +kernel)
theorem lmL_83 : Cond.methodLink RL 83 yX7_unlike ∈ zz_W := zz_mem (i := 945) (by decide +kernel) (by decide +kernel)
theorem lmL_86 : Cond.methodLink RL 86 yX8_unlike ∈ zz_W := zz_mem (i := 1369) (by decide +kernel) (by decide +kernel)
theorem lmL_87 : Cond.methodLink RL 87 yX7_image ∈ zz_W := zz_mem (i := 955) (by decide +kernel) (by decide +kernel)
theorem lmL_90 : Cond.methodLink RL 90 yX8_image ∈ zz_W := zz_mem (i := 1373) (by decide +kernel) (by decide +kernel)
theorem lmL_91 : Cond.methodLink RL 91 yX7_undo ∈ zz_W := zz_mem (i := 966) (by decide +kernel) (by decide +kernel)
theorem lmL_94 : Cond.methodLink RL 94 yX8_undo ∈ zz_W := zz_mem (i := 1377) (by decide +kernel) (by decide +kernel)
theorem lmL_95 : Cond.methodLink RL 95 yX7_count ∈ zz_W := zz_mem (i := 970) (by decide +kernel) (by decide +kernel)
theorem lmL_98 : Cond.methodLink RL 98 yX8_count ∈ zz_W := zz_mem (i := 1381) (by decide +kernel) (by decide +kernel)
theorem nwL_7 : Cond.classLink RL 7 RX7 ∈ zz_W ∧ Cond.instantiable RX7 9 ∈ zz_W ∧ Cond.initialized RX7 ∈ zz_W := ⟨(zz_mem (i := 103) (by decide +kernel) (by decide +kernel)), (zz_mem (i := 104) (by decide +kernel) (by decide +kernel)), (zz_mem (i := 85) (by decide +kernel) (by decide +kernel))⟩
theorem nwL_10 : Cond.classLink RL 10 RX8 ∈ zz_W ∧ Cond.instantiable RX8 32 ∈ zz_W ∧ Cond.initialized RX8 ∈ zz_W := ⟨(zz_mem (i := 984) (by decide +kernel) (by decide +kernel)), (zz_mem (i := 985) (by decide +kernel) (by decide +kernel)), (zz_mem (i := 87) (by decide +kernel) (by decide +kernel))⟩
def IV (E : Wd) (O M j kc nc : Nat) (h : Hp) (s : Sg) : Prop := ∃ c1 c2 bt bk A f, CT E h O M s c1 c2 bt bk ∧ Rf E h h M A f ∧ RS A f s ∧ kc ≤ 60 + 13 * j + 9 * (tn c1 + tn c2) ∧ nc ≤ 30000 + 1019 * j + 33640 * (tn c1 + tn c2)
section
variable {E : Wd} {X : Mx} {Q : Option Value → Hp → Prop} {b L O M j kc nc : Nat} {xs : Nat → Int32} {h : Hp} {s : Sg}
abbrev CL (E : Wd) (X : Mx) (Q : Option Value → Hp → Prop) : Prop := zz_C E X (YL (xT X).name) 2048 600000 7302250 Q
theorem zg_sld {mc ms d nL k n pc q : Nat} {Y : My} {Lc : List (Option Value)} {st : List Value} {i : Int32} (C : zz_C E X Y d mc ms Q) (SX : va_X b L xs (xS X) (eH E)) (hb : b < eZ E) (hin : vp_in i L) (hd : decode Y.2.1 pc = .ok (.iaload, 1)) (hq : pc + 1 = q) (g : GG E X nL k n q Lc (.int (xs i.toNatClampNeg) :: st) h) : GG E X nL k n pc Lc (.int i :: .ref b :: st) h := by
  subst hq
  obtain ⟨scr, h1, h2, h3, h4, h5⟩ := SX
  have hlt : i.toNatClampNeg < L := Nat.not_le.mp fun q => hin (Or.inr q)
  intro H locs ls hR hl hL
  exact W.iald (v := .int (xs i.toNatClampNeg)) C.1 C.2.1 (by rw [hR.2.2.2.2 b hb]; exact h1) h2 h3 (by rw [h4]; exact hin) (h5 _ hlt) rfl rfl hd (g H locs ls hR hl hL)
theorem zg_slen {mc ms d nL k n pc q : Nat} {Y : My} {Lc : List (Option Value)} {st : List Value} (C : zz_C E X Y d mc ms Q) (SX : va_X b L xs (xS X) (eH E)) (hb : b < eZ E) (hd : decode Y.2.1 pc = .ok (.arraylength, 1)) (hq : pc + 1 = q) (g : GG E X nL k n q Lc (.int (nI L) :: st) h) : GG E X nL k n pc Lc (.ref b :: st) h := by
  subst hq
  obtain ⟨scr, h1, h2, h3, h4, h5⟩ := SX
  intro H locs ls hR hl hL
  exact W.alen (n := Int32.ofNat L) C.1 C.2.1 (by rw [hR.2.2.2.2 b hb]; exact h1) h2 (by rw [h4] <;> rfl) rfl rfl hd (g H locs ls hR hl hL)
theorem zl_push {k n pc q a r : Nat} {st : List Value} {c : Int} (C : CL E X Q) (SX : va_X b L xs (xS X) (eH E)) (hb : b < eZ E) (hL : L ≤ 3584) (ha : a + r < L) (d1 : decode cL_law pc = .ok (.aload_n 0, 1)) (d2 : decode cL_law (pc + 1) = .ok (.iload_n 3, 1)) (d3 : decode cL_law (pc + 2) = .ok (.iconst c, 1)) (hc : Int32.ofInt c = nI r) (d4 : decode cL_law (pc + 3) = .ok (.iadd, 1)) (d5 : decode cL_law (pc + 4) = .ok (.iaload, 1)) (hq : pc + 5 = q) (g : GG E X 4 k n q (lcL b O M a) (.int (xs (a + r)) :: st) h) : GG E X 4 k n pc (lcL b O M a) st h := by
  refine zg_aload_n C d1 rfl rfl (zg_iload_n C d2 rfl rfl (zg_iconst C d3 hc rfl (zg_iadd C d4 rfl ?_)))
  rw [nI_add]
  refine zg_sld C SX hb (nI_in ha (by omega)) d5 hq ?_
  rw [nI_clamp (by omega)]
  exact g
theorem zl_pushB {k n pc q a r : Nat} {st : List Value} {c : Int} (C : CL E X Q) (SX : va_X b L xs (xS X) (eH E)) (hb : b < eZ E) (hL : L ≤ 3584) (ha : a + r < L) (d1 : decode cL_law pc = .ok (.aload_n 0, 1)) (d2 : decode cL_law (pc + 1) = .ok (.iload_n 3, 1)) (d3 : decode cL_law (pc + 2) = .ok (.bipush c, 2)) (hc : (Int8.ofInt c).toInt32 = nI r) (d4 : decode cL_law (pc + 4) = .ok (.iadd, 1)) (d5 : decode cL_law (pc + 5) = .ok (.iaload, 1)) (hq : pc + 6 = q) (g : GG E X 4 k n q (lcL b O M a) (.int (xs (a + r)) :: st) h) : GG E X 4 k n pc (lcL b O M a) st h := by
  refine zg_aload_n C d1 rfl rfl (zg_iload_n C d2 rfl rfl (zg_bipush C d3 hc rfl (zg_iadd C d4 rfl ?_)))
  rw [nI_add]
  refine zg_sld C SX hb (nI_in ha (by omega)) d5 hq ?_
  rw [nI_clamp (by omega)]
  exact g
theorem zl_ci {Yc : My} {k n pc q np idx w ci N : Nat} {T : u_T} {av st0 rest : List Value} {Lc : List (Option Value)} (C : CL E X Q) (V1 : zz_M Yc np) (V : zz_V Yc) (hk : Cond.methodLink RL idx Yc.1 ∈ zz_W) (hci : vwCl[ci]? = some (Yc.1.cls, T, N)) (ho : isO h w ci) (hn : av.length = np) (hst : st0 = av.reverse ++ .ref w :: rest) (hrest : rest.length ≤ 4) (hc : k ≤ 600000 ∧ n ≤ 7302250) (hd : decode cL_law pc = .ok (.invokevirtual idx, 3)) (hq : pc + 3 = q)
    (ok : OkI E Yc 2047 (.ref w :: av) h (fun x h' => GG E X 4 k n q Lc (.int x :: rest) h')) : GG E X 4 k n pc Lc st0 h :=
  zz_callV (mc' := 0) (ms' := 0) C V1 V hk rfl hci ho hn hst hrest (Nat.le_refl _) hd hq hc ok (fun r h' f => by obtain ⟨x, e, f⟩ := f; subst e; exact f)
theorem zl_cj {Yc : My} {k n pc q np idx w ci N mc' ms' : Nat} {T : u_T} {av st0 rest : List Value} {Lc : List (Option Value)} (C : CL E X Q) (V1 : zz_M Yc np) (V : zz_V Yc) (hk : Cond.methodLink RL idx Yc.1 ∈ zz_W) (hci : vwCl[ci]? = some (Yc.1.cls, T, N)) (ho : isO h w ci) (hn : av.length = np) (hst : st0 = av.reverse ++ .ref w :: rest) (hrest : rest.length ≤ 4) (hc : k + mc' ≤ 600000 ∧ n + ms' ≤ 7302250) (hd : decode cL_law pc = .ok (.invokevirtual idx, 3)) (hq : pc + 3 = q)
    (ok : OkJ E Yc 2047 mc' ms' (.ref w :: av) h (fun x h' => GG E X 4 (k + mc') (n + ms') q Lc (.int x :: rest) h')) : GG E X 4 k n pc Lc st0 h :=
  zz_callV C V1 V hk rfl hci ho hn hst hrest (Nat.le_refl _) hd hq hc ok (fun r h' f => by obtain ⟨x, e, f⟩ := f; subst e; exact f)
theorem zl_cmp {k n pc t : Nat} {x : Int32} {off : Int} {Lc : List (Option Value)} (C : CL E X Q) (hd : decode cL_law pc = .ok (.if_icmp .eq off, 3)) (ht : (pc : Int) + off = (t : Int)) (g : GG E X 4 k n t Lc [] h) : GG E X 4 k n pc Lc [.int x, .int x] h :=
  zg_icmp_eq C hd ht rfl (fun _ => g) (fun q => absurd rfl q)
theorem zl_rf {h' : Hp} {A : Nat → Nat → Int32} {f : Nat → Int32} (R : Rf E h h M A f) (F : FQ M h h') : Rf E h' h' M A f :=
  ⟨fun j hj => (F.2 (M + j) (by omega) (by omega)).trans (R.1 j hj), Nat.le_refl _, fun _ _ _ => rfl⟩
theorem tn_le (c : Sl) : tn c ≤ 1 := by cases c <;> simp [tn]
theorem zl_iv {h' : Hp} {c1 c2 : Sl} {bt bk : Option Bool} {A : Nat → Nat → Int32} {f : Nat → Int32} (CC : CT E h O M s c1 c2 bt bk) (R : Rf E h h' M A f) (S : RS A f s) (hk : kc ≤ 60 + 13 * j + 9 * (tn c1 + tn c2)) (hn : nc ≤ 30000 + 1019 * j + 33640 * (tn c1 + tn c2)) : IV E O M j kc nc h' s :=
  ⟨c1, c2, bt, bk, A, f, CC.of (fun a ha => R.2.2 a (CC.2.2.2.2.2.2.2.2.2.1 a ha).1 (by have := (CC.2.2.2.2.2.2.2.2.2.1 a ha).2; omega)) R.2.1, ⟨R.1, Nat.le_refl _, fun _ _ _ => rfl⟩, S, hk, hn⟩
end
