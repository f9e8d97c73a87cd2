def ush (x y : Int32) : Int32 := (x.toUInt32 >>> (y.toUInt32 &&& Int32.toUInt32 31)).toInt32
def bc1 (x : Int32) : Int32 := x - (ush x 1 &&& 1431655765)
def bc2 (x : Int32) : Int32 := (x &&& 858993459) + (ush x 2 &&& 858993459)
def bc3 (x : Int32) : Int32 := (x + ush x 4) &&& 252645135
def bc4 (x : Int32) : Int32 := x + ush x 8
def bc5 (x : Int32) : Int32 := (x + ush x 16) &&& 63
def bcE (x : Int32) : Int32 := bc5 (bc4 (bc3 (bc2 (bc1 x))))
theorem bcE_pop (n : Nat) (hn : n < 4096) : bcE (nI n) = nI (pop n) := by
  have all : ∀ a, a < 64 → ∀ b, b < 64 → bcE (nI (64 * a + b)) = nI (pop (64 * a + b)) := by decide +kernel
  have := all (n / 64) (by omega) (n % 64) (by omega)
  rwa [show 64 * (n / 64) + n % 64 = n by omega] at this
section
variable {E : Wd} {h : Hp} {p : Nat} {d : Nat} {pl : Pl}
theorem c_bitCount {Q : Int32 → Hp → Prop} {n : Nat} (hn : n < 4096) (hq : Q (nI (pop n)) h) : OkI E YJ6_bitCount_0f7a4 d [.int (nI n)] h Q :=
  zz_body2 (r := 0) mJ6_bitCount_0f7a4 (zc_i zc_n) (Nat.le_of_ble_eq_true rfl) (fun X C => by
    refine zg_iload_n (q := 1) C dJ6_bitCount_0f7a4_0 rfl rfl ?_
    refine zg_iload_n (q := 2) C dJ6_bitCount_0f7a4_1 rfl rfl ?_
    refine zg_iconst (v := 1) (q := 3) C dJ6_bitCount_0f7a4_2 (by decide) rfl ?_
    refine zg_iushr (q := 4) C dJ6_bitCount_0f7a4_3 rfl ?_
    refine zj_ldcw (v := 1431655765) (q := 7) C ckJ6_265 dJ6_bitCount_0f7a4_4 rfl ?_
    refine zg_iand (q := 8) C dJ6_bitCount_0f7a4_7 rfl ?_
    refine zg_isub (q := 9) C dJ6_bitCount_0f7a4_8 rfl ?_
    refine zg_istore_n (q := 10) C dJ6_bitCount_0f7a4_9 (by decide) rfl ?_
    refine zg_iload_n (x := bc1 (nI n)) (q := 11) C dJ6_bitCount_0f7a4_10 rfl rfl ?_
    refine zj_ldcw (v := 858993459) (q := 14) C ckJ6_266 dJ6_bitCount_0f7a4_11 rfl ?_
    refine zg_iand (q := 15) C dJ6_bitCount_0f7a4_14 rfl ?_
    refine zg_iload_n (x := bc1 (nI n)) (q := 16) C dJ6_bitCount_0f7a4_15 rfl rfl ?_
    refine zg_iconst (v := 2) (q := 17) C dJ6_bitCount_0f7a4_16 (by decide) rfl ?_
    refine zg_iushr (q := 18) C dJ6_bitCount_0f7a4_17 rfl ?_
    refine zj_ldcw (v := 858993459) (q := 21) C ckJ6_266 dJ6_bitCount_0f7a4_18 rfl ?_
    refine zg_iand (q := 22) C dJ6_bitCount_0f7a4_21 rfl ?_
    refine zg_iadd (q := 23) C dJ6_bitCount_0f7a4_22 rfl ?_
    refine zg_istore_n (q := 24) C dJ6_bitCount_0f7a4_23 (by decide) rfl ?_
    refine zg_iload_n (x := bc2 (bc1 (nI n))) (q := 25) C dJ6_bitCount_0f7a4_24 rfl rfl ?_
    refine zg_iload_n (x := bc2 (bc1 (nI n))) (q := 26) C dJ6_bitCount_0f7a4_25 rfl rfl ?_
    refine zg_iconst (v := 4) (q := 27) C dJ6_bitCount_0f7a4_26 (by decide) rfl ?_
    refine zg_iushr (q := 28) C dJ6_bitCount_0f7a4_27 rfl ?_
    refine zg_iadd (q := 29) C dJ6_bitCount_0f7a4_28 rfl ?_
    refine zj_ldcw (v := 252645135) (q := 32) C ckJ6_267 dJ6_bitCount_0f7a4_29 rfl ?_
    refine zg_iand (q := 33) C dJ6_bitCount_0f7a4_32 rfl ?_
    refine zg_istore_n (q := 34) C dJ6_bitCount_0f7a4_33 (by decide) rfl ?_
    refine zg_iload_n (x := bc3 (bc2 (bc1 (nI n)))) (q := 35) C dJ6_bitCount_0f7a4_34 rfl rfl ?_
    refine zg_iload_n (x := bc3 (bc2 (bc1 (nI n)))) (q := 36) C dJ6_bitCount_0f7a4_35 rfl rfl ?_
    refine zg_bipush (v := 8) (q := 38) C dJ6_bitCount_0f7a4_36 (by decide) rfl ?_
    refine zg_iushr (q := 39) C dJ6_bitCount_0f7a4_38 rfl ?_
    refine zg_iadd (q := 40) C dJ6_bitCount_0f7a4_39 rfl ?_
    refine zg_istore_n (q := 41) C dJ6_bitCount_0f7a4_40 (by decide) rfl ?_
    refine zg_iload_n (x := bc4 (bc3 (bc2 (bc1 (nI n))))) (q := 42) C dJ6_bitCount_0f7a4_41 rfl rfl ?_
    refine zg_iload_n (x := bc4 (bc3 (bc2 (bc1 (nI n))))) (q := 43) C dJ6_bitCount_0f7a4_42 rfl rfl ?_
    refine zg_bipush (v := 16) (q := 45) C dJ6_bitCount_0f7a4_43 (by decide) rfl ?_
    refine zg_iushr (q := 46) C dJ6_bitCount_0f7a4_45 rfl ?_
    refine zg_iadd (q := 47) C dJ6_bitCount_0f7a4_46 rfl ?_
    refine zg_istore_n (q := 48) C dJ6_bitCount_0f7a4_47 (by decide) rfl ?_
    refine zg_iload_n (q := 49) C dJ6_bitCount_0f7a4_48 rfl rfl ?_
    refine zg_bipush (v := 63) (q := 51) C dJ6_bitCount_0f7a4_49 (by decide) rfl ?_
    refine zg_iand (q := 52) C dJ6_bitCount_0f7a4_51 rfl ?_
    exact zg_iret C rfl dJ6_bitCount_0f7a4_52 ⟨Nat.le_refl _, Nat.le_refl _⟩ ⟨bcE (nI n), rfl, by rw [bcE_pop n hn]; exact hq⟩)
theorem c_fill {Q : Hp → Prop} {a m : Nat} {F : Nat → Int32} {x : Int32} (ha : h.2 a = some (.inl (eA E 0, m, .inl F))) (hm : m < 2 ^ 31)
    (hq : ∀ h' G, h'.2 a = some (.inl (eA E 0, m, .inl G)) → (∀ i, i < m → G i = x) → h'.1 = h.1 → (∀ b, b ≠ a → h'.2 b = h.2 b) → Q h') : OkV E YJ7_fill_53178 d [.ref a, .int x] h Q :=
  zz_body2 (r := 2) mJ7_fill_53178 (zc_a (zc_i zc_n)) (Nat.le_of_ble_eq_true rfl) (fun X C => by
    refine zg_iconst (v := 0) (q := 1) C dJ7_fill_53178_0 (by decide) rfl ?_
    refine zg_istore_n (q := 2) C dJ7_fill_53178_1 (by decide) rfl ?_
    refine zg_aload_n (q := 3) C dJ7_fill_53178_2 rfl rfl ?_
    refine zg_alen (t := 0) (q := 4) C (by omega) dJ7_fill_53178_3 rfl ⟨_, ha⟩ ?_
    rw [show lA h a = nI m by simp [lA, ha, nI]]
    refine zg_istore_n (q := 5) C dJ7_fill_53178_4 (by decide) rfl ?_
    have loop := lp_up (K := fun i => ∀ h' G, h'.2 a = some (.inl (eA E 0, m, .inl G)) → (∀ i', i' < i → G i' = x) → h'.1 = h.1 → (∀ b, b ≠ a → h'.2 b = h.2 b) → GG E X 4 0 0 5 [some (.ref a), some (.int x), some (.int (nI i)), some (.int (nI m))] [] h') m (fun i hi ih h' G g1 g2 g3 g4 => by
      refine zg_iload_n (q := 6) C dJ7_fill_53178_5 rfl rfl ?_
      refine zg_iload_n (q := 7) C dJ7_fill_53178_6 rfl rfl ?_
      refine zg_icmp_ge (t := 20) (q := 10) C dJ7_fill_53178_7 (by decide) rfl (fun e => absurd (nI_lt hi hm) (fun z => by first | exact e z | exact absurd z (Int32.not_lt.mpr e))) (fun _ => ?_)
      refine zg_aload_n (q := 11) C dJ7_fill_53178_10 rfl rfl ?_
      refine zg_iload_n (q := 12) C dJ7_fill_53178_11 rfl rfl ?_
      refine zg_iload_n (q := 13) C dJ7_fill_53178_12 rfl rfl ?_
      refine zg_iast (q := 14) C dJ7_fill_53178_13 rfl ⟨_, _, g1, vpn hi hm⟩ ?_
      refine zg_iinc (v := 1) (q := 17) C dJ7_fill_53178_14 rfl (by decide) (by decide) rfl ?_
      refine zg_goto (t := 5) C dJ7_fill_53178_17 (by decide) ?_
      have s1 := sA_of (i := nI i) (x := x) g1
      rw [n_cl (h := by omega)] at s1
      have := ih (sA h' a (nI i) x) (upd G i x) s1 (fun i' hi' => by
        by_cases c : i' = i
        · subst c; simp [upd]
        · simp [upd, c, g2 i' (by omega)]) g3 (fun b hb => by rw [← g4 b hb]; simp [sA, hb])
      rw [← nI_1] at this
      exact this) (fun h' G g1 g2 g3 g4 => by
      refine zg_iload_n (q := 6) C dJ7_fill_53178_5 rfl rfl ?_
      refine zg_iload_n (q := 7) C dJ7_fill_53178_6 rfl rfl ?_
      refine zg_icmp_ge (t := 20) (q := 10) C dJ7_fill_53178_7 (by decide) rfl (fun _ => ?_) (fun e => absurd (nI_nlt (Nat.le_refl m) hm) (fun z => by first | exact e z | exact z (Decidable.not_not.mp e) | exact z (Int32.not_le.mp e)))
      exact zg_vret C rfl dJ7_fill_53178_20 ⟨Nat.le_refl _, Nat.le_refl _⟩ ⟨rfl, hq h' G g1 g2 g3 g4⟩) 0 (Nat.zero_le _) h F ha (fun i hi => absurd hi (Nat.not_lt_zero _)) rfl (fun _ _ => rfl)
    exact loop)
theorem c_copy {Q : Hp → Prop} {p2 : Nat} {pl2 : Pl} (K : Ky E h p pl) (K2 : Ky E h p2 pl2) (h1 : p + 2 ≤ p2 ∨ p2 + 2 ≤ p) (hq : ∀ h', Ky E h' p pl2 → Fr2 h h' p → Q h') : OkV E YX0_copy (d + 1) [.ref p, .ref p2] h Q := by
  refine rnX0_copy ?_
  obtain ⟨a1, a2, F, a3, a4⟩ := id K
  obtain ⟨b1, b2, G, b3, b4⟩ := id K2
  have l1 : lA h (p + 1) = 41 := by simp [lA, a3]
  simp only [vcX0_copy_0, K.fs, K2.fs, true_and]
  refine ⟨⟨41, 41, G, F, b3, a3, by omega, by decide, by decide, by decide, by decide, by decide⟩, fun h2 e2 => ?_⟩
  have c1 : h2.2 (p + 1) = some (.inl (eA E 0, 41, .inl (va_cpy G F 0 0 41))) := by
    rw [e2]
    simp only [cA, if_true, b3, a3]
    rfl
  have c2 : ∀ b, b ≠ p + 1 → h2.2 b = h.2 b := fun b hb => by rw [e2]; simp only [cA, hb, if_false]
  have c3 : h2.1 = h.1 := by rw [e2]; rfl
  clear e2
  have d1 : h2.2 p = some (.inr (0, [.ref (p + 1), .int (nI (pN pl))])) := by rw [c2 p (by omega)]; exact a2
  have d2 : h2.2 p2 = some (.inr (0, [.ref (p2 + 1), .int (nI (pN pl2))])) := by rw [c2 p2 (by omega)]; exact b2
  refine ⟨⟨_, _, d2, rfl⟩, ⟨_, d1, Nat.le_refl _⟩, fun h3 e3 => ?_⟩
  rw [show fI h2 p2 1 = nI (pN pl2) by show vI (hF h2 p2 1) = _; rw [hF_of d2 rfl]; rfl] at e3
  subst e3
  refine hq _ ⟨b1, by simp [pF, d1], va_cpy G F 0 0 41, ?_, fun k hk => ?_⟩ ⟨c3, fun b o1 o2 => by simp only [pF, o1, if_false]; exact c2 b o2⟩
  · have : p + 1 ≠ p := by omega
    simp only [pF, this, if_false]; exact c1
  · have := b4 k hk
    rw [va_cpy, if_pos ⟨by omega, by omega⟩]
    rw [show 0 + (k - 0) = k by omega]
    exact this
end
