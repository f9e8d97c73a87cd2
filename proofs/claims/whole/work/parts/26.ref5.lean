section
variable {E : Wd} {h0 h : Hp} {M : Nat} {A : Nat → Nat → Int32} {f : Nat → Int32} {g : Gm} {d : Nat}
theorem k_isAttacked {Q : Int32 → Hp → Prop} {j t b : Nat} {P : Nat → Nat} (R : Rf E h0 h M A f) (hg : rA (A 2) g) (w : qF g) (hj : rP j) (hp : ∀ m, m < 3 → A j m = nI (P m)) (hP : ∀ m, m < 3 → P m < 2 ^ 31) (ht : t < 12) (hb : b < 2 ^ 31) (hq : Q (bI (att g P t b)) h) : OkI E YX8_isAttacked (d + 3) [.ref M, .ref (M + j), .int (nI t), .int (nI b)] h Q := by
  refine rnX8_isAttacked (fun K13 k13 => ?_)
  have hn : qn g ≤ 3 := w.2.2.2.2.2.2.1
  have hs := w.sq_lt
  refine ⟨⟨_, R.obj⟩, k_occupied R hg w hj hp hP ?_⟩
  have loop := lp_up (K := fun m => K13 M (M + j) (nI t) (nI b) (nI (occ g P)) (bI (attN g P t b m)) (nI m) h) (qn g) (fun m hm ih => by
    refine k13 _ _ _ _ _ _ _ _ ?_
    have hpm := R.plm hj hp (show m < 3 by omega)
    simp only [vcX8_isAttacked_13, R.fs, R.gm hg, true_and, nI_leI (show qn g < 2 ^ 31 by omega) (show m < 2 ^ 31 by omega), hpm]
    rw [← nI_1] at ih
    refine ⟨fun c => absurd c (by omega), fun _ => k_isOf R hg w (by omega) hb (bI_c (fun c => ?_) (fun c => ?_))⟩
    · have e : attN g P t b (m + 1) = attN g P t b m := by simp [attN, c]
      rw [e] at ih
      simp only [vcX8_isAttacked_68]
      rw [show bI (attN g P t b m) ||| (0 : Int32) = bI (attN g P t b m) by rw [← bI_f, bI_or, Bool.or_false]]
      exact ih
    · simp only [hpm, R.fs, true_and]
      refine k_squares R hg ?_
      simp only [hpm, R.fs, true_and, nI_leI (show sq g < 2 ^ 31 by omega) (hP m (by omega))]
      refine ⟨fun c2 => ?_, fun c2 => ?_⟩
      · have e : attN g P t b (m + 1) = attN g P t b m := by simp [attN, show ¬ P m < sq g by omega]
        rw [e] at ih
        simp only [vcX8_isAttacked_68]
        rw [show bI (attN g P t b m) ||| (0 : Int32) = bI (attN g P t b m) by rw [← bI_f, bI_or, Bool.or_false]]
        exact ih
      · refine k_reaches (cap := true) R hg w (by omega) (by omega) ht (occN_lt w P _) (bI_c (fun c3 => ?_) (fun c3 => ?_))
        · have e : attN g P t b (m + 1) = attN g P t b m := by simp [attN, c3]
          rw [e] at ih
          simp only [vcX8_isAttacked_68]
          rw [show bI (attN g P t b m) ||| (0 : Int32) = bI (attN g P t b m) by rw [← bI_f, bI_or, Bool.or_false]]
          exact ih
        · have e : attN g P t b (m + 1) = true := by simp [attN, c, c3, show P m < sq g by omega]
          rw [e] at ih
          rw [show bI (attN g P t b m) ||| (1 : Int32) = bI true by rw [← bI_t, bI_or, Bool.or_true]]
          exact ih) (by
    refine k13 _ _ _ _ _ _ _ _ ?_
    simp only [vcX8_isAttacked_13, R.fs, R.gm hg, true_and]
    exact ⟨fun _ => ⟨bI_m _, hq⟩, fun c => absurd (nI_le (Nat.le_refl _) (by omega)) c⟩) 0 (Nat.zero_le _)
  exact loop
theorem k_isInCheck {Q : Int32 → Hp → Prop} {j s : Nat} {P : Nat → Nat} (R : Rf E h0 h M A f) (hg : rA (A 2) g) (w : qF g) (hj : rP j) (hp : ∀ m, m < 3 → A j m = nI (P m)) (hP : ∀ m, m < 3 → P m < 2 ^ 31) (hs : s ≤ 1) (hr : P (roy g s) < 12) (hq : Q (bI (chk g P s)) h) : OkI E YX8_isInCheck (d + 4) [.ref M, .ref (M + j), .int (nI s)] h Q := by
  refine rnX8_isInCheck ?_
  have hn : qn g ≤ 3 := w.2.2.2.2.2.2.1
  have h3 := roy_lt w s
  refine ⟨⟨_, R.obj⟩, k_royal R hg (by omega) ?_⟩
  simp only [R.plm hj hp (show roy g s < 3 by omega), R.fs, true_and]
  rw [show (1 : Int32) - nI s = nI (1 - s) from pk_sub (a := 1) hs]
  exact k_isAttacked R hg w hj hp hP hr (by omega) ⟨bI_m _, hq⟩
theorem k_manAt {Q : Int32 → Hp → Prop} {j t : Nat} {P : Nat → Nat} (R : Rf E h0 h M A f) (hg : rA (A 2) g) (w : qF g) (hj : rP j) (hp : ∀ m, m < 3 → A j m = nI (P m)) (hP : ∀ m, m < 3 → P m < 2 ^ 31) (ht : t < 2 ^ 31) (hq : Q (mI (mat g P t)) h) : OkI E YX8_manAt d [.ref M, .ref (M + j), .int (nI t)] h Q := by
  refine rnX8_manAt (fun K6 k6 => ?_)
  have hn : qn g ≤ 3 := w.2.2.2.2.2.2.1
  have loop := lp_up (K := fun m => K6 M (M + j) (nI t) (mI (matN P t m)) (nI m) h) (qn g) (fun m hm ih => by
    refine k6 _ _ _ _ _ _ ?_
    simp only [vcX8_manAt_6, R.fs, R.gm hg, true_and, nI_leI (show qn g < 2 ^ 31 by omega) (show m < 2 ^ 31 by omega), R.plm hj hp (show m < 3 by omega), nI_eq (hP m (by omega)) ht]
    rw [← nI_1] at ih
    refine ⟨fun c => absurd c (by omega), fun _ => ⟨fun c => ?_, fun c => ?_⟩⟩
    · rw [show matN P t (m + 1) = matN P t m by simp [matN, c]] at ih; exact ih
    · rw [show matN P t (m + 1) = some m by simp [matN, c]] at ih; exact ih) (by
    refine k6 _ _ _ _ _ _ ?_
    simp only [vcX8_manAt_6, R.fs, R.gm hg, true_and]
    exact ⟨fun _ => hq, fun c => absurd (nI_le (Nat.le_refl _) (by omega)) c⟩) 0 (Nat.zero_le _)
  exact loop
theorem k_isPossible {Q : Int32 → Hp → Prop} {j s : Nat} {P : Nat → Nat} (R : Rf E h0 h M A f) (hg : rA (A 2) g) (w : qF g) (hj : rP j) (hp : ∀ m, m < 3 → A j m = nI (P m)) (hP : ∀ m, m < 3 → P m ≤ sq g) (hs : s ≤ 1) (hq : Q (bI (poss g P s)) h) : OkI E YX8_isPossible (d + 5) [.ref M, .ref (M + j), .int (nI s)] h Q := by
  refine rnX8_isPossible (fun K13 k13 => ?_)
  have hn : qn g ≤ 3 := w.2.2.2.2.2.2.1
  have hb : qb g < 3 := by have := w.2.2.2.2.2.2.2.2.1; omega
  have hsq := w.sq_lt
  have hP' : ∀ m, m < 3 → P m < 2 ^ 31 := fun m hm => by have := hP m hm; omega
  simp only [vcX8_isPossible_0, R.fs, R.gm hg, true_and]
  have fin : K13 M (M + j) (nI s) (bI (posN g P 3)) (nI (setN g P 3)) (nI 3) h := by
    refine k13 _ _ _ _ _ _ _ ?_
    simp only [vcX8_isPossible_13]
    refine ⟨fun _ => bI_c (fun c => ?_) (fun c => ⟨⟨_, R.obj⟩, ?_⟩), fun c => absurd (nI_le (a := 3) (Nat.le_refl _) (by omega)) c⟩
    · rw [poss, c] at hq; exact ⟨Or.inl rfl, hq⟩
    · rw [show (1 : Int32) - nI s = nI (1 - s) from pk_sub (a := 1) hs]
      have hroy : P (roy g (1 - s)) < 12 := by
        have h3 := roy_lt w (1 - s)
        have hall : ∀ m, m < 3 → posN g P (m + 1) = true := by
          have c3 : posN g P 3 = true := c
          have c2 : posN g P 2 = true := by rw [posN] at c3; simp only [Bool.and_eq_true] at c3; exact c3.1
          have c1 : posN g P 1 = true := by rw [posN] at c2; simp only [Bool.and_eq_true] at c2; exact c2.1
          intro m hm
          match m, hm with
          | 0, _ => exact c1
          | 1, _ => exact c2
          | 2, _ => exact c3
        have h4 := hall (roy g (1 - s)) (by omega)
        rw [posN] at h4
        have h5 : (roy g (1 - s) == 0 || roy g (1 - s) == qb g) = true := by
          unfold roy; split <;> simp
        rw [h5] at h4
        simp [thr] at h4
        omega
      refine k_isInCheck R hg w hj hp hP' (by omega) hroy (bI_c' (fun c2 => ?_) (fun c2 => ?_))
      · rw [poss, c, c2] at hq; exact ⟨Or.inr rfl, hq⟩
      · rw [poss, c, c2] at hq; exact ⟨Or.inl rfl, hq⟩
  have step : ∀ m, m < 3 → K13 M (M + j) (nI s) (bI (posN g P (m + 1))) (nI (setN g P (m + 1))) (nI (m + 1)) h → K13 M (M + j) (nI s) (bI (posN g P m)) (nI (setN g P m)) (nI m) h := by
    intro m hm ih
    have hpm := R.plm hj hp hm
    have hst := setN_lt w P m
    have hPm := hP m hm
    rw [← nI_1] at ih
    refine k13 _ _ _ _ _ _ _ ?_
    obtain ⟨th, hth⟩ : ∃ th, thr g P m = th := ⟨_, rfl⟩
    have L126 : ∀ b, (posN g P m && b) = posN g P (m + 1) → vcX8_isPossible_126 E (d + 4) K13 M (M + j) (nI s) (nI (setN g P m)) (nI m) (bI th) (bI (posN g P m)) (bI b) h Q := by
      intro b e
      simp only [vcX8_isPossible_126, hpm, true_and, bI_and, e]
      refine bI_c (fun c => ?_) (fun c => ?_)
      · rw [show setN g P (m + 1) = setN g P m by simp [setN, hth, c]] at ih
        rw [n_lit0, nx_or, Nat.or_zero]; exact ih
      · have h6 : P m < sq g := by rw [c] at hth; simp [thr] at hth; exact hth.2
        rw [show setN g P (m + 1) = setN g P m ||| 2 ^ P m by simp [setN, hth, c], ← nx_or] at ih
        rw [n_shl (P m) (by omega)]; exact ih
    have L125 : posN g P (m + 1) = false → vcX8_isPossible_125 E (d + 4) K13 M (M + j) (nI s) (nI (setN g P m)) (nI m) (bI th) (bI (posN g P m)) h Q := fun e => L126 false (by rw [e]; simp)
    have L99 : (posN g P m && (decide (m < qn g) || P m == sq g)) = posN g P (m + 1) → vcX8_isPossible_99 E (d + 4) K13 M (M + j) (nI s) (nI (setN g P m)) (nI m) (bI th) (bI (posN g P m)) h Q := by
      intro e
      simp only [vcX8_isPossible_99, R.fs, R.gm hg, true_and, hpm, nI_ltI (show m < 2 ^ 31 by omega) (show qn g < 2 ^ 31 by omega)]
      refine ⟨fun c => L126 true (by rw [← e]; simp [c]), fun c => k_squares R hg ?_⟩
      rw [nI_eq (by omega) (by omega)]
      exact ⟨fun c2 => L125 (by rw [← e]; simp [c, c2]), fun c2 => L126 true (by rw [← e]; simp [c2])⟩
    have L82 : (posN g P m && (!(th && (setN g P m).testBit (P m)) && (decide (m < qn g) || P m == sq g))) = posN g P (m + 1) → vcX8_isPossible_82 E (d + 4) K13 M (M + j) (nI s) (nI (setN g P m)) (nI m) (bI th) (bI (posN g P m)) h Q := by
      intro e
      simp only [vcX8_isPossible_82, hpm, true_and]
      refine bI_c (fun c => L99 (by rw [← e]; simp [c])) (fun c => k_has hst (by omega) (bI_c' (fun c2 => L99 (by rw [← e]; simp [c2])) (fun c2 => L125 (by rw [← e]; simp [c, c2]))))
    have e0 : posN g P (m + 1) = (posN g P m && ((th || !(m == 0 || m == qb g)) && !(th && (setN g P m).testBit (P m)) && (decide (m < qn g) || P m == sq g))) := by rw [posN, hth]
    have L69 : ∀ r : Bool, r = (m == 0 || m == qb g) → vcX8_isPossible_69 E (d + 4) K13 M (M + j) (nI s) (bI (posN g P m)) (nI (setN g P m)) (nI m) (bI th) (bI r) h Q := by
      intro r hr
      simp only [vcX8_isPossible_69]
      refine bI_c' (fun c => bI_c' (fun c2 => ?_) (fun c2 => ?_)) (fun c => ?_)
      · exact L82 (by rw [e0, ← hr, c, c2]; simp)
      · exact L125 (by rw [e0, ← hr, c, c2]; simp)
      · exact L82 (by rw [e0, c]; simp)
    have L46 : vcX8_isPossible_46 E (d + 4) K13 M (M + j) (nI s) (bI (posN g P m)) (nI (setN g P m)) (nI m) (bI th) h Q := by
      simp only [vcX8_isPossible_46, vcX8_isPossible_64, R.fs, R.gm hg, true_and, (ks (show m < 2 ^ 31 by omega)).1, nI_eq (show m < 2 ^ 31 by omega) (show qb g < 2 ^ 31 by omega)]
      refine ⟨fun c => L69 true (by simp [c]), fun c => ⟨fun c2 => L69 false (by simp [c, c2]), fun c2 => L69 true (by simp [c2])⟩⟩
    simp only [vcX8_isPossible_13, R.fs, R.gm hg, true_and, hpm, nI_leI (show qn g < 2 ^ 31 by omega) (show m < 2 ^ 31 by omega), vcX8_isPossible_45]
    refine ⟨fun c => absurd c (nI_ge (a := m) (b := 3) hm (by omega)), fun _ => ⟨fun c => ?_, fun c => k_squares R hg ?_⟩⟩
    · rw [show th = false by rw [← hth]; simp [thr, show ¬ m < qn g by omega]] at L46; exact L46
    · rw [nI_leI (by omega) (by omega)]
      refine ⟨fun c2 => ?_, fun c2 => ?_⟩
      · rw [show th = false by rw [← hth]; simp [thr, show ¬ P m < sq g by omega]] at L46; exact L46
      · rw [show th = true by rw [← hth]; simp [thr, show m < qn g by omega, show P m < sq g by omega]] at L46; exact L46
  exact step 0 (by omega) (step 1 (by omega) (step 2 (by omega) fin))
end
