def rP (j : Nat) : Prop := (6 ≤ j ∧ j < 12) ∨ j = 47 ∨ j = 48
theorem rP.k {j : Nat} (h : rP j) : rK j = true ∧ rty j = 0 ∧ rlen j = 3 := by
  rcases h with ⟨h1, h2⟩ | h | h
  · have : j = 6 ∨ j = 7 ∨ j = 8 ∨ j = 9 ∨ j = 10 ∨ j = 11 := by omega
    rcases this with rfl | rfl | rfl | rfl | rfl | rfl <;> exact ⟨rfl, rfl, rfl⟩
  · subst h; exact ⟨rfl, rfl, rfl⟩
  · subst h; exact ⟨rfl, rfl, rfl⟩
section
variable {E : Wd} {h0 h : Hp} {M : Nat} {A : Nat → Nat → Int32} {f : Nat → Int32} {g : Gm} {d : Nat}
theorem Rf.gm (R : Rf E h0 h M A f) (hg : rA (A 2) g) : gA h (M + 2) 0 = nI (qw g) ∧ gA h (M + 2) 1 = nI (qh g) ∧ gA h (M + 2) 2 = nI (qn g) ∧ gA h (M + 2) 3 = nI (qb g) ∧ gA h (M + 2) 4 = nI (qo g) ∧ gA h (M + 2) 5 = qs g ∧ gA h (M + 2) 6 = ql g ∧
    okR E h (M + 2) 0 0 ∧ okR E h (M + 2) 0 1 ∧ okR E h (M + 2) 0 2 ∧ okR E h (M + 2) 0 3 ∧ okR E h (M + 2) 0 4 ∧ okR E h (M + 2) 0 5 ∧ okR E h (M + 2) 0 6 := by
  obtain ⟨e0, e1, e2, e3, e4, e5, e6, -⟩ := hg
  refine ⟨?_, ?_, ?_, ?_, ?_, ?_, ?_, R.oR 2 0 rfl rfl (vpd rfl), R.oR 2 1 rfl rfl (vpd rfl), R.oR 2 2 rfl rfl (vpd rfl), R.oR 2 3 rfl rfl (vpd rfl), R.oR 2 4 rfl rfl (vpd rfl), R.oR 2 5 rfl rfl (vpd rfl), R.oR 2 6 rfl rfl (vpd rfl)⟩
  · rw [R.gR 2 0 rfl]; exact e0
  · rw [R.gR 2 1 rfl]; exact e1
  · rw [R.gR 2 2 rfl]; exact e2
  · rw [R.gR 2 3 rfl]; exact e3
  · rw [R.gR 2 4 rfl]; exact e4
  · rw [R.gR 2 5 rfl]; exact e5
  · rw [R.gR 2 6 rfl]; exact e6
theorem k_squares {Q : Int32 → Hp → Prop} (R : Rf E h0 h M A f) (hg : rA (A 2) g) (hq : Q (nI (sq g)) h) : OkI E YX8_squares d [.ref M] h Q := by
  refine rnX8_squares ?_
  simp only [vcX8_squares_0, R.fs, R.gm hg, true_and, pk_mul]
  exact hq
theorem k_has {Q : Int32 → Hp → Prop} {n p : Nat} (hn : n < 4096) (hp : p < 31) (hq : Q (bI (n.testBit p)) h) : OkI E YX8_has d [.int (nI n), .int (nI p)] h Q := by
  refine rnX8_has ?_
  simp only [vcX8_has_0]
  rw [n_has (by omega) hp]
  refine ⟨fun c => ?_, fun c => ?_⟩
  · rw [show n.testBit p = false by simpa using c] at hq
    exact ⟨Or.inl rfl, hq⟩
  · rw [c] at hq
    exact ⟨Or.inr rfl, hq⟩
theorem k_isBetween {Q : Int32 → Hp → Prop} {x a b : Int32} (hq : Q (bI (decide (a ≤ x ∧ x ≤ b))) h) : OkI E YX8_isBetween d [.int x, .int a, .int b] h Q := by
  refine rnX8_isBetween ?_
  refine ⟨fun c => ⟨Or.inl rfl, ?_⟩, fun c => ⟨fun c2 => ⟨Or.inl rfl, ?_⟩, fun c2 => ⟨Or.inr rfl, ?_⟩⟩⟩
  · rw [decide_eq_false (fun q => absurd q.1 (Int32.not_le.mpr c))] at hq
    exact hq
  · rw [decide_eq_false (fun q => absurd q.2 (Int32.not_le.mpr c2))] at hq
    exact hq
  · rw [decide_eq_true ⟨Int32.not_lt.mp c, Int32.not_lt.mp c2⟩] at hq
    exact hq
theorem k_isWhite {Q : Int32 → Hp → Prop} {m : Nat} (R : Rf E h0 h M A f) (hg : rA (A 2) g) (w : qF g) (hm : m < 2 ^ 31) (hq : Q (bI (decide (m < qb g))) h) : OkI E YX8_isWhite d [.ref M, .int (nI m)] h Q := by
  refine rnX8_isWhite ?_
  have hb : qb g < 3 := by have := w.2.2.2.2.2.2; omega
  simp only [vcX8_isWhite_0, R.fs, R.gm hg, true_and, nI_leI (show qb g < 2 ^ 31 by omega) hm]
  refine ⟨fun c => ⟨Or.inl rfl, ?_⟩, fun c => ⟨Or.inr rfl, ?_⟩⟩
  · rw [decide_eq_false (by omega)] at hq; exact hq
  · rw [decide_eq_true (by omega)] at hq; exact hq
theorem k_isOf {Q : Int32 → Hp → Prop} {m s : Nat} (R : Rf E h0 h M A f) (hg : rA (A 2) g) (w : qF g) (hm : m < 2 ^ 31) (hs : s < 2 ^ 31) (hq : Q (bI (iof g m s)) h) : OkI E YX8_isOf (d + 1) [.ref M, .int (nI m), .int (nI s)] h Q := by
  refine rnX8_isOf ?_
  refine ⟨⟨_, R.obj⟩, k_isWhite R hg w hm ?_⟩
  simp only [vcX8_isOf_14, n_lit0, nI_eq hs (show 0 < 2 ^ 31 by omega)]
  simp only [iof] at hq
  by_cases h1 : m < qb g <;> by_cases h2 : s = 0 <;> simp [h1, h2, bI, mB, nI] at hq ⊢ <;> exact hq
theorem k_royal {Q : Int32 → Hp → Prop} {s : Nat} (R : Rf E h0 h M A f) (hg : rA (A 2) g) (hs : s < 2 ^ 31) (hq : Q (nI (roy g s)) h) : OkI E YX8_royal d [.ref M, .int (nI s)] h Q := by
  refine rnX8_royal ?_
  simp only [vcX8_royal_0, R.fs, R.gm hg, true_and, n_lit0, nI_eq hs (show 0 < 2 ^ 31 by omega)]
  refine ⟨fun c => ?_, fun c => ?_⟩
  · rw [roy, if_neg c] at hq; exact hq
  · rw [roy, if_pos c] at hq; exact hq
theorem Rf.pl {j : Nat} {P : Nat → Nat} (R : Rf E h0 h M A f) (hj : rP j) (hp : ∀ m, m < 3 → A j m = nI (P m)) : gA h (M + j) 0 = nI (P 0) ∧ gA h (M + j) 1 = nI (P 1) ∧ gA h (M + j) 2 = nI (P 2) ∧ okR E h (M + j) 0 0 ∧ okR E h (M + j) 0 1 ∧ okR E h (M + j) 0 2 := by
  obtain ⟨k1, k2, k3⟩ := hj.k
  refine ⟨?_, ?_, ?_, R.oR j 0 k1 k2 (by rw [k3]; exact vpd rfl), R.oR j 1 k1 k2 (by rw [k3]; exact vpd rfl), R.oR j 2 k1 k2 (by rw [k3]; exact vpd rfl)⟩
  · rw [R.gR j 0 k1]; exact hp 0 (by omega)
  · rw [R.gR j 1 k1]; exact hp 1 (by omega)
  · rw [R.gR j 2 k1]; exact hp 2 (by omega)
theorem Rf.plm {j m : Nat} {P : Nat → Nat} (R : Rf E h0 h M A f) (hj : rP j) (hp : ∀ m, m < 3 → A j m = nI (P m)) (hm : m < 3) : gA h (M + j) (nI m) = nI (P m) ∧ okR E h (M + j) 0 (nI m) := by
  obtain ⟨k1, k2, k3⟩ := hj.k
  refine ⟨?_, R.oR j _ k1 k2 (by rw [k3]; exact vpn hm)⟩
  rw [R.gR j _ k1, n_cl]; exact hp m hm
theorem k_indexOf {Q : Int32 → Hp → Prop} {j s : Nat} {P : Nat → Nat} (R : Rf E h0 h M A f) (hg : rA (A 2) g) (hj : rP j) (hp : ∀ m, m < 3 → A j m = nI (P m)) (hq : Q (nI (ixo g P s)) h) : OkI E YX8_indexOf (d + 1) [.ref M, .ref (M + j), .int (nI s)] h Q := by
  refine rnX8_indexOf ?_
  refine ⟨⟨_, R.obj⟩, k_squares R hg ?_⟩
  simp only [R.pl hj hp, true_and]
  simp only [n_lit1, n_lit2, nI_add, pk_mul]
  exact hq
theorem k_occupied {Q : Int32 → Hp → Prop} {j : Nat} {P : Nat → Nat} (R : Rf E h0 h M A f) (hg : rA (A 2) g) (w : qF g) (hj : rP j) (hp : ∀ m, m < 3 → A j m = nI (P m)) (hP : ∀ m, m < 3 → P m < 2 ^ 31) (hq : Q (nI (occ g P)) h) : OkI E YX8_occupied (d + 1) [.ref M, .ref (M + j)] h Q := by
  refine rnX8_occupied (fun K9 k9 => ?_)
  have hn : qn g ≤ 3 := w.2.2.2.2.2.2.1
  have hs := w.sq_lt
  have loop := lp_up (K := fun m => K9 M (M + j) (nI (occN g P m)) (nI m) h) (qn g) (fun m hm ih => by
    refine k9 _ _ _ _ _ ?_
    simp only [vcX8_occupied_9, R.fs, R.gm hg, true_and, nI_leI (show qn g < 2 ^ 31 by omega) (show m < 2 ^ 31 by omega), R.plm hj hp (show m < 3 by omega)]
    refine ⟨fun c => absurd c (by omega), fun _ => k_squares R hg ?_⟩
    simp only [R.plm hj hp (show m < 3 by omega), true_and, nI_leI (show sq g < 2 ^ 31 by omega) (hP m (by omega)), nI_1]
    refine ⟨fun c => ?_, fun c => ?_⟩
    · have e : occN g P (m + 1) = occN g P m := by simp [occN, show ¬ P m < sq g by omega]
      rw [n_lit0, nx_or, Nat.or_zero]
      rw [e] at ih
      exact ih
    · have e : occN g P (m + 1) = occN g P m ||| 2 ^ P m := by simp [occN, show P m < sq g by omega]
      rw [n_shl (P m) (by omega), nx_or, ← e]
      exact ih) (by
    refine k9 _ _ _ _ _ ?_
    simp only [vcX8_occupied_9, R.fs, R.gm hg, true_and]
    exact ⟨fun _ => hq, fun c => absurd (nI_le (Nat.le_refl _) (by omega)) c⟩) 0 (Nat.zero_le _)
  simp only [vcX8_occupied_0, R.fs, R.gm hg, true_and]
  exact loop
end
