theorem ks {k : Nat} (h : k < 2 ^ 31) : (nI k = (0 : Int32) ↔ k = 0) ∧ (nI k = (1 : Int32) ↔ k = 1) ∧ (nI k = (2 : Int32) ↔ k = 2) ∧ (nI k = (3 : Int32) ↔ k = 3) ∧ (nI k = (4 : Int32) ↔ k = 4) ∧ (nI k = (5 : Int32) ↔ k = 5) ∧ (nI k = (6 : Int32) ↔ k = 6) ∧ (nI k = (7 : Int32) ↔ k = 7) ∧ (nI k = (8 : Int32) ↔ k = 8) ∧ (nI k = (9 : Int32) ↔ k = 9) :=
  ⟨nI_eq (b := 0) h (by omega), nI_eq (b := 1) h (by omega), nI_eq (b := 2) h (by omega), nI_eq (b := 3) h (by omega), nI_eq (b := 4) h (by omega), nI_eq (b := 5) h (by omega), nI_eq (b := 6) h (by omega), nI_eq (b := 7) h (by omega), nI_eq (b := 8) h (by omega), nI_eq (b := 9) h (by omega)⟩
theorem kl {k : Nat} (h : k < 2 ^ 31) : ((1 : Int32) < nI k ↔ 1 < k) ∧ (nI k ≤ (0 : Int32) ↔ k ≤ 0) := ⟨nI_ltI (a := 1) (by omega) h, nI_leI (b := 0) h (by omega)⟩
theorem ddf_lt {a b : Nat} (n : Nat) (ha : a < n) (hb : b < n) : ddf a b < n := by unfold ddf; omega
theorem ddf_0 {a b : Nat} : ddf a b = 0 ↔ a = b := by unfold ddf; omega
theorem rr0 {P0 P1 : Prop} {x y : Nat} {b : Bool} (hb : b = (x + y == 1)) (f0 : b = false → P0) (f1 : b = true → P1) : (¬ x + y = 1 → P0) ∧ (x + y = 1 → P1) := by grind
theorem rr1 {P0 P1 : Prop} {x y : Nat} {b : Bool} (hb : b = (x == 1 && y == 1)) (f0 : b = false → P0) (f1 : b = true → P1) : (¬ x = 1 → P0) ∧ (x = 1 → (¬ y = 1 → P0) ∧ (y = 1 → P1)) := by grind
theorem rr2 {P0 P1 : Prop} {x y : Nat} {b : Bool} (hb : b = (decide (x ≤ 1) && decide (y ≤ 1) && decide (0 < x + y))) (f0 : b = false → P0) (f1 : b = true → P1) : (1 < x → P0) ∧ (¬ 1 < x → (1 < y → P0) ∧ (¬ 1 < y → (x + y ≤ 0 → P0) ∧ (¬ x + y ≤ 0 → P1))) := by grind
theorem rr3 {P0 P1 : Prop} {x y : Nat} {b : Bool} (hb : b = ((x == 1 && y == 2) || (x == 2 && y == 1))) (f0 : b = false → P0) (f1 : b = true → P1) : (¬ x = 1 → (¬ x = 2 → P0) ∧ (x = 2 → (¬ y = 1 → P0) ∧ (y = 1 → P1))) ∧ (x = 1 → (y = 2 → P1) ∧ (¬ y = 2 → (¬ x = 2 → P0) ∧ (x = 2 → (¬ y = 1 → P0) ∧ (y = 1 → P1)))) := by grind
theorem rr4 {P0 P1 : Prop} {x y : Nat} {b : Bool} (hb : b = (x == 2 && y == 2)) (f0 : b = false → P0) (f1 : b = true → P1) : (¬ x = 2 → P0) ∧ (x = 2 → (¬ y = 2 → P0) ∧ (y = 2 → P1)) := by grind
theorem rr8 {P0 P1 : Prop} {x y : Nat} {b : Bool} (hb : b = ((x == 2 && y == 0) || (x == 0 && y == 2))) (f0 : b = false → P0) (f1 : b = true → P1) : (¬ x = 2 → (¬ x = 0 → P0) ∧ (x = 0 → (¬ y = 2 → P0) ∧ (y = 2 → P1))) ∧ (x = 2 → (y = 0 → P1) ∧ (¬ y = 0 → (¬ x = 0 → P0) ∧ (x = 0 → (¬ y = 2 → P0) ∧ (y = 2 → P1)))) := by grind
theorem rr9 {P0 P1 : Prop} {x tq sq' m b' : Nat} {b cap : Bool} (hb : b = ((if m < b' then tq == sq' + 1 else tq + 1 == sq') && x == (if cap = true then 1 else 0))) (f0 : b = false → P0) (f1 : b = true → P1) :
    (¬ m < b' → (¬ tq + 1 = sq' → P0) ∧ (tq + 1 = sq' → (cap = false → (¬ x = 0 → P0) ∧ (x = 0 → P1)) ∧ (¬ cap = false → (¬ x = 1 → P0) ∧ (x = 1 → P1)))) ∧
    (¬ ¬ m < b' → (¬ tq = sq' + 1 → P0) ∧ (tq = sq' + 1 → (cap = false → (¬ x = 0 → P0) ∧ (x = 0 → P1)) ∧ (¬ cap = false → (¬ x = 1 → P0) ∧ (x = 1 → P1)))) := by
  by_cases h1 : m < b' <;> cases cap <;> simp [h1] at hb ⊢ <;> grind
section
variable {E : Wd} {h0 h : Hp} {M : Nat} {A : Nat → Nat → Int32} {f : Nat → Int32} {g : Gm} {d : Nat}
theorem Rf.kd (R : Rf E h0 h M A f) (hg : rA (A 2) g) {m : Nat} (hm : m < 3) : gA h (M + 2) ((7 : Int32) + nI m) = nI (qk g m) ∧ okR E h (M + 2) 0 ((7 : Int32) + nI m) := by
  have e : (7 : Int32) + nI m = nI (7 + m) := nI_add 7 m
  rw [e]
  refine ⟨?_, R.oR 2 _ rfl rfl (vpn (n := 10) (show 7 + m < 10 by omega) (by omega))⟩
  rw [R.gR 2 _ rfl, n_cl]
  exact hg.2.2.2.2.2.2.2 m hm
theorem k_reaches {Q : Int32 → Hp → Prop} {m s t o : Nat} {cap : Bool} (R : Rf E h0 h M A f) (hg : rA (A 2) g) (w : qF g) (hm : m < 3) (hs : s < 12) (ht : t < 12) (ho : o < 4096) (hq : Q (bI (rch g m s t o cap)) h) : OkI E YX8_reaches (d + 2) [.ref M, .int (nI m), .int (nI s), .int (nI t), .int (nI o), .int (bI cap)] h Q := by
  refine rnX8_reaches ?_
  have hw : 2 ≤ qw g ∧ qw g ≤ 6 := ⟨w.1, w.2.1⟩
  have hne : ¬ nI (qw g) = (0 : Int32) := nI_ne0 (by omega) (by omega)
  have hk : qk g m < 10 := w.2.2.2.2.2.2.2.2.2.2 m
  have m1 := Nat.mod_le t (qw g)
  have m2 := Nat.mod_le s (qw g)
  have m3 := Nat.div_le_self t (qw g)
  have m4 := Nat.div_le_self s (qw g)
  have x1 : dxx (qw g) s t < 12 := ddf_lt 12 (by omega) (by omega)
  have y1 : dyy (qw g) s t < 12 := ddf_lt 12 (by omega) (by omega)
  simp only [vcX8_reaches_0, R.fs, R.gm hg, true_and, hne, not_false_eq_true]
  rw [pk_rem (show t < 2 ^ 31 by omega) (show 0 < qw g by omega) (show qw g < 2 ^ 31 by omega), pk_rem (show s < 2 ^ 31 by omega) (show 0 < qw g by omega) (show qw g < 2 ^ 31 by omega), pk_div (show t < 2 ^ 31 by omega) (show 0 < qw g by omega) (show qw g < 2 ^ 31 by omega), pk_div (show s < 2 ^ 31 by omega) (show 0 < qw g by omega) (show qw g < 2 ^ 31 by omega)]
  refine k_size (by omega) (by omega) (k_size (by omega) (by omega) ?_)
  have e1 : ddf (t % qw g) (s % qw g) = dxx (qw g) s t := rfl
  have e2 : ddf (t / qw g) (s / qw g) = dyy (qw g) s t := rfl
  rw [e1, e2]
  obtain ⟨x, hx⟩ : ∃ x, dxx (qw g) s t = x := ⟨_, rfl⟩
  obtain ⟨y, hy⟩ : ∃ y, dyy (qw g) s t = y := ⟨_, rfl⟩
  rw [hx] at x1
  rw [hy] at y1
  rw [hx, hy]
  have m0 : mB 0 := Or.inl rfl
  have m1' : mB 1 := Or.inr rfl
  have hC : lineB (qw g) s t = true → Q (bI (clr (qw g) s t o)) h → OkI E YX8_isClear (d + 1) [.ref M, .int (nI s), .int (nI t), .int (nI o)] h (fun r h1 => (r = (0 : Int32) → mB 0 ∧ Q 0 h1) ∧ (¬ r = (0 : Int32) → mB 1 ∧ Q 1 h1)) := fun hl hc =>
    k_isClear R hg w hs ht ho hl (bI_c (fun c => by rw [c] at hc; exact ⟨m0, hc⟩) (fun c => by rw [c] at hc; exact ⟨m1', hc⟩))
  have kx := ks (show x < 2 ^ 31 by omega)
  have ky := ks (show y < 2 ^ 31 by omega)
  have kk := ks (show qk g m < 2 ^ 31 by omega)
  have kxy := ks (show x + y < 2 ^ 31 by omega)
  have lx := kl (show x < 2 ^ 31 by omega)
  have ly := kl (show y < 2 ^ 31 by omega)
  have lxy := kl (show x + y < 2 ^ 31 by omega)
  have hup : ∀ q : Nat, (nI (t / qw g) - nI (s / qw g) = nI q ↔ t / qw g = s / qw g + q) ∨ 2 ^ 20 ≤ q := by
    intro q
    by_cases hq : q < 2 ^ 20
    · left
      rw [← Int32.toInt_inj, sgn_sub (by omega) (by omega), nI_toInt (by omega)]
      omega
    · right; omega
  have L87 : ∀ st di : Bool, st = ((x == 0) != (y == 0)) → di = (x == y && decide (0 < x)) → vcX8_reaches_87 E (d + 1) M (nI m) (nI s) (nI t) (nI o) (bI cap) (nI x) (nI (t / qw g) - nI (s / qw g)) (nI y) (bI st) (bI di) h Q := by
    intro st di hst hdi
    simp only [vcX8_reaches_87, R.fs, R.kd hg hm, true_and, nI_add, kk, kx, ky, kxy, lx, ly, lxy, vcX8_reaches_219, vcX8_reaches_337, vcX8_reaches_309]
    have hq0 := hq
    have hl : lineB (qw g) s t = (st || di) := by rw [lineB, hx, hy, hst, hdi]
    rw [hl] at hC
    have h10 : qk g m = 0 ∨ qk g m = 1 ∨ qk g m = 2 ∨ qk g m = 3 ∨ qk g m = 4 ∨ qk g m = 5 ∨ qk g m = 6 ∨ qk g m = 7 ∨ qk g m = 8 ∨ qk g m = 9 := by omega
    have f0 : rch g m s t o cap = false → mB 0 ∧ Q 0 h := fun c => by rw [c] at hq0; exact ⟨m0, hq0⟩
    have f1 : rch g m s t o cap = true → mB 1 ∧ Q 1 h := fun c => by rw [c] at hq0; exact ⟨m1', hq0⟩
    have hr : rch g m s t o cap = rch g m s t o cap := rfl
    conv at hr => rhs; simp only [rch, hx, hy]
    rcases h10 with k0 | k0 | k0 | k0 | k0 | k0 | k0 | k0 | k0 | k0 <;> simp only [k0, if_true, if_false, reduceCtorEq, Nat.reduceEqDiff, Nat.one_ne_zero, false_imp_iff, true_imp_iff, true_and, and_true, not_false_eq_true, not_true_eq_false, Nat.zero_ne_one] at hr ⊢
    · exact rr0 hr f0 f1
    · exact rr1 hr f0 f1
    · exact rr2 hr f0 f1
    · exact rr3 hr f0 f1
    · exact rr4 hr f0 f1
    · rw [← hst] at hr
      cases st
      · exact ⟨fun _ => f0 hr, fun c => absurd rfl c⟩
      · refine ⟨fun c => absurd c (by decide), fun _ => hC rfl ?_⟩
        rw [Bool.true_and] at hr
        rw [← hr]; exact hq0
    · rw [← hdi] at hr
      cases di
      · exact ⟨fun _ => f0 hr, fun c => absurd rfl c⟩
      · refine ⟨fun c => absurd c (by decide), fun _ => hC (by simp) ?_⟩
        rw [Bool.true_and] at hr
        rw [← hr]; exact hq0
    · rw [← hst, ← hdi] at hr
      cases st
      · cases di
        · exact ⟨fun c => absurd rfl c, fun _ => ⟨fun _ => f0 hr, fun c => absurd rfl c⟩⟩
        · refine ⟨fun c => absurd rfl c, fun _ => ⟨fun c => absurd c (by decide), fun _ => hC rfl ?_⟩⟩
          rw [Bool.or_true, Bool.true_and] at hr
          rw [← hr]; exact hq0
      · refine ⟨fun _ => hC rfl ?_, fun c => absurd c (by decide)⟩
        rw [Bool.true_or, Bool.true_and] at hr
        rw [← hr]; exact hq0
    · exact rr8 hr f0 f1
    · refine k_isWhite R hg w (by omega) ?_
      have hcap : (bI cap = (0 : Int32) ↔ cap = false) := bI_0
      have hx2 := kx.1
      have hx3 := kx.2.1
      simp only [vcX8_reaches_369, vcX8_reaches_384, bI_0]
      have u1 : nI (t / qw g) - nI (s / qw g) = 1 ↔ t / qw g = s / qw g + 1 := by
        rw [← Int32.toInt_inj, sgn_sub (by omega) (by omega), show (1 : Int32).toInt = 1 from rfl]; omega
      have u2 : nI (t / qw g) - nI (s / qw g) = (-1) ↔ t / qw g + 1 = s / qw g := by
        rw [← Int32.toInt_inj, sgn_sub (by omega) (by omega), show (-1 : Int32).toInt = -1 from rfl]; omega
      rw [u1, u2]
      have hw2 : decide (m < qb g) = false ↔ ¬ m < qb g := by simp
      rw [hw2, hx2, hx3]
      exact rr9 hr f0 f1
  have L86 : vcX8_reaches_50 E (d + 1) M (nI m) (nI s) (nI t) (nI o) (bI cap) (nI x) (nI (t / qw g) - nI (s / qw g)) (nI y) (bI (x == 0)) h Q := by
    simp only [vcX8_reaches_50, vcX8_reaches_60, vcX8_reaches_68, vcX8_reaches_86, kx, ky, lx, nI_eq (show x < 2 ^ 31 by omega) (show y < 2 ^ 31 by omega)]
    have a11 := L87 true true
    have a10 := L87 true false
    have a01 := L87 false true
    have a00 := L87 false false
    simp only [bI_t, bI_f] at a11 a10 a01 a00
    have b0 : bI (x == 0) = if x = 0 then 1 else 0 := by by_cases c : x = 0 <;> simp [bI, c]
    rw [b0]
    clear L87 hq hC hup
    by_cases c1 : x = 0
    · subst c1
      by_cases c2 : y = 0
      · subst c2
        simpa using a00
      · have c3 : ¬ 0 = y := fun q => c2 q.symm
        have c4 : (y == 0) = false := by simpa using c2
        have c5 : ((0 : Nat) == y) = false := by simpa using c3
        simp [c2, c3, c4, c5] at a10 ⊢
        exact a10
    · have c1' : (x == 0) = false := by simpa using c1
      by_cases c2 : y = 0
      · subst c2
        simp [c1, c1'] at a10 ⊢
        exact a10
      · have c4 : (y == 0) = false := by simpa using c2
        by_cases c3 : x = y
        · subst c3
          have : 0 < x := by omega
          simp [c1, c1', this] at a01 ⊢
          exact a01
        · have c5 : (x == y) = false := by simpa using c3
          simp [c1, c2, c3, c1', c4, c5] at a00 ⊢
          exact a00
  simp only [kx]
  have q2 := L86
  refine ⟨fun c => ?_, fun c => ?_⟩
  · rw [show (x == 0) = false by simpa using c] at q2; exact q2
  · rw [show (x == 0) = true by simpa using c] at q2; exact q2
end
