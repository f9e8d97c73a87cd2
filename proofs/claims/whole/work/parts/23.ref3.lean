def lineB (w f t : Nat) : Bool := ((dxx w f t == 0) != (dyy w f t == 0)) || (dxx w f t == dyy w f t && decide (0 < dxx w f t))
def geoB (w f t : Nat) : Bool := decide ((f : Int) + (steps w f t : Int) * strd w f t = t) && decide (1 ≤ steps w f t) && (List.range (steps w f t)).all (fun i => decide (0 ≤ (f : Int) + (i : Int) * strd w f t) && decide ((f : Int) + (i : Int) * strd w f t < 12) && decide ((f : Int) + (i : Int) * strd w f t ≠ t))
theorem geo0 : ((List.range 7).all fun w => decide (w < 2) || (List.range 12).all fun f => (List.range 12).all fun t => !lineB w f t || geoB w f t) = true := by decide +kernel
theorem geo (w : Nat) (h1 : w < 7) (h2 : 2 ≤ w) (f : Nat) (h3 : f < 12) (t : Nat) (h4 : t < 12) (hl : lineB w f t = true) : ((f : Int) + (steps w f t : Int) * strd w f t = t ∧ 1 ≤ steps w f t ∧ ∀ i : Nat, i < steps w f t → 0 ≤ (f : Int) + (i : Int) * strd w f t ∧ (f : Int) + (i : Int) * strd w f t < 12 ∧ (f : Int) + (i : Int) * strd w f t ≠ t) := by
  have e := List.all_eq_true.mp geo0 w (List.mem_range.mpr h1)
  rw [decide_eq_false (by omega), Bool.false_or] at e
  have e := List.all_eq_true.mp e f (List.mem_range.mpr h3)
  have e := List.all_eq_true.mp e t (List.mem_range.mpr h4)
  rw [hl, Bool.not_true, Bool.false_or] at e
  simp only [geoB, Bool.and_eq_true, decide_eq_true_eq] at e
  refine ⟨e.1.1, e.1.2, fun i hi => ?_⟩
  have := List.all_eq_true.mp e.2 i (List.mem_range.mpr hi)
  simp only [Bool.and_eq_true, decide_eq_true_eq] at this
  exact ⟨this.1.1, this.1.2, this.2⟩
theorem ofI (n : Nat) : Int32.ofInt (n : Int) = nI n := rfl
theorem way_bit (a k o : Nat) : ((a ||| 2 ^ k) &&& o == 0) = ((a &&& o == 0) && !o.testBit k) := by
  have e : 2 ^ k &&& o = if o.testBit k = true then 2 ^ k else 0 := by
    apply Nat.eq_of_testBit_eq
    intro i
    rw [Nat.testBit_and, Nat.testBit_two_pow]
    by_cases hk : k = i
    · subst hk
      cases h : o.testBit k <;> simp
    · cases h : o.testBit k <;> simp [hk, Nat.testBit_two_pow]
  rw [Nat.and_or_distrib_right, e]
  have h2 : 0 < 2 ^ k := Nat.two_pow_pos k
  cases h : o.testBit k <;> simp [Nat.or_eq_zero_iff]
theorem sgn_sub {a b : Nat} (ha : a < 2 ^ 30) (hb : b < 2 ^ 30) : (nI a - nI b).toInt = (a : Int) - b := pk_sub_toInt ha hb
section
variable {E : Wd} {h0 h : Hp} {M : Nat} {A : Nat → Nat → Int32} {f : Nat → Int32} {g : Gm} {d : Nat}
theorem k_sign {Q : Int32 → Hp → Prop} {a b : Nat} (ha : a < 2 ^ 30) (hb : b < 2 ^ 30) (hq : Q (Int32.ofInt (sgn a b)) h) : OkI E YX8_sign d [.int (nI a - nI b)] h Q := by
  refine rnX8_sign ?_
  have e := sgn_sub ha hb
  simp only [vcX8_sign_0, Int32.le_iff_toInt_le, e, Int32.toInt_zero]
  refine ⟨fun c => ⟨fun c2 => ?_, fun c2 => ?_⟩, fun c => ?_⟩
  · rw [sgn, if_neg (by omega), if_neg (by omega)] at hq; exact hq
  · rw [sgn, if_neg (by omega), if_pos (by omega)] at hq; exact hq
  · rw [sgn, if_pos (by omega)] at hq; exact hq
theorem k_size {Q : Int32 → Hp → Prop} {a b : Nat} (ha : a < 2 ^ 30) (hb : b < 2 ^ 30) (hq : Q (nI (ddf a b)) h) : OkI E YX8_size d [.int (nI a - nI b)] h Q := by
  refine rnX8_size ?_
  have e := sgn_sub ha hb
  simp only [vcX8_size_0, Int32.le_iff_toInt_le, e, Int32.toInt_zero]
  refine ⟨fun c => ?_, fun c => ?_⟩
  · rw [pk_sub (by omega)]
    rw [ddf, show b - a = 0 by omega, Nat.add_zero] at hq
    exact hq
  · rw [Int32.neg_sub, pk_sub (by omega)]
    rw [ddf, show a - b = 0 by omega, Nat.zero_add] at hq
    exact hq
theorem k_isClear {Q : Int32 → Hp → Prop} {s t o : Nat} (R : Rf E h0 h M A f) (hg : rA (A 2) g) (w : qF g) (hs : s < 12) (ht : t < 12) (ho : o < 4096) (hl : lineB (qw g) s t = true) (hq : Q (bI (clr (qw g) s t o)) h) : OkI E YX8_isClear (d + 1) [.ref M, .int (nI s), .int (nI t), .int (nI o)] h Q := by
  refine rnX8_isClear (fun K51 k51 => ?_)
  have hw : 2 ≤ qw g ∧ qw g ≤ 6 := ⟨w.1, w.2.1⟩
  obtain ⟨g1, g2, g3⟩ := geo (qw g) (by omega) hw.1 s hs t ht hl
  have hne : ¬ nI (qw g) = (0 : Int32) := nI_ne0 (by omega) (by omega)
  simp only [vcX8_isClear_0, R.fs, R.gm hg, true_and, hne, not_false_eq_true]
  rw [pk_rem (show t < 2 ^ 31 by omega) (show 0 < qw g by omega) (show qw g < 2 ^ 31 by omega), pk_rem (show s < 2 ^ 31 by omega) (show 0 < qw g by omega) (show qw g < 2 ^ 31 by omega), pk_div (show t < 2 ^ 31 by omega) (show 0 < qw g by omega) (show qw g < 2 ^ 31 by omega), pk_div (show s < 2 ^ 31 by omega) (show 0 < qw g by omega) (show qw g < 2 ^ 31 by omega)]
  have m1 := Nat.mod_le t (qw g)
  have m2 := Nat.mod_le s (qw g)
  have m3 := Nat.div_le_self t (qw g)
  have m4 := Nat.div_le_self s (qw g)
  refine k_sign (by omega) (by omega) (k_sign (by omega) (by omega) ?_)
  have loop := lp_up (K := fun i => K51 (nI t) (nI o) (nI (qw g)) (Int32.ofInt (sgn (t % qw g) (s % qw g))) (Int32.ofInt (sgn (t / qw g) (s / qw g))) (bI (wayN (qw g) s t i &&& o == 0)) (Int32.ofInt ((s : Int) + ((i + 1 : Nat) : Int) * strd (qw g) s t)) h) (steps (qw g) s t - 1) (fun i hi ih => by
    obtain ⟨p1, p2, p3⟩ := g3 (i + 1) (by omega)
    obtain ⟨q, hqe⟩ : ∃ q : Nat, (s : Int) + ((i + 1 : Nat) : Int) * strd (qw g) s t = (q : Int) := ⟨_, (Int.toNat_of_nonneg p1).symm⟩
    rw [hqe] at p2 p3
    refine k51 _ _ _ _ _ _ _ _ ?_
    rw [hqe, ofI]
    simp only [vcX8_isClear_51, nI_eq (show q < 2 ^ 31 by omega) (show t < 2 ^ 31 by omega)]
    refine ⟨fun c => absurd c (by omega), fun _ => k_has ho (by omega) ?_⟩
    have e1 : (bI (wayN (qw g) s t i &&& o == 0) &&& bI (!o.testBit q)) = bI (wayN (qw g) s t (i + 1) &&& o == 0) := by
      rw [bI_and]
      congr 1
      show _ = ((wayN (qw g) s t i ||| 2 ^ ((s : Int) + ((i + 1 : Nat) : Int) * strd (qw g) s t).toNat) &&& o == 0)
      rw [hqe, way_bit]
      rfl
    have e2 : nI q + (Int32.ofInt (sgn (t / qw g) (s / qw g)) * nI (qw g) + Int32.ofInt (sgn (t % qw g) (s % qw g))) = Int32.ofInt ((s : Int) + ((i + 1 + 1 : Nat) : Int) * strd (qw g) s t) := by
      have : (s : Int) + ((i + 1 + 1 : Nat) : Int) * strd (qw g) s t = (q : Int) + strd (qw g) s t := by
        rw [← hqe]
        push_cast
        rw [Int.add_mul _ 1, Int.one_mul]
        omega
      rw [this, strd, Int32.ofInt_add, Int32.ofInt_add, Int32.ofInt_mul]
      rfl
    simp only [vcX8_isClear_73, e2]
    refine bI_c' (fun c => ?_) (fun c => ?_)
    · rw [c] at e1
      rw [← e1] at ih
      exact ih
    · rw [c] at e1
      rw [← e1] at ih
      exact ih) (by
    refine k51 _ _ _ _ _ _ _ _ ?_
    have e : ((s : Int) + ((steps (qw g) s t - 1 + 1 : Nat) : Int) * strd (qw g) s t) = (t : Int) := by
      rw [show steps (qw g) s t - 1 + 1 = steps (qw g) s t by omega]
      exact g1
    rw [e, ofI]
    exact ⟨fun _ => ⟨bI_m _, hq⟩, fun c => absurd rfl c⟩) 0 (Nat.zero_le _)
  have e0 : nI s + Int32.ofInt (sgn (t / qw g) (s / qw g)) * nI (qw g) + Int32.ofInt (sgn (t % qw g) (s % qw g)) = Int32.ofInt ((s : Int) + ((0 + 1 : Nat) : Int) * strd (qw g) s t) := by
    rw [show ((0 + 1 : Nat) : Int) = 1 from rfl, Int.one_mul, strd, Int32.ofInt_add, Int32.ofInt_add, Int32.ofInt_mul, Int32.add_assoc]
    rfl
  rw [e0]
  have e3 : bI (wayN (qw g) s t 0 &&& o == 0) = 1 := by simp [wayN, bI]
  rw [e3] at loop
  exact loop
end
