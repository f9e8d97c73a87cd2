theorem n_has0 {n p : Nat} (hn : n < 2 ^ 31) (hp : p < 31) : ((nI n >>> (nI p &&& 31)) &&& 1 = (0 : Int32)) ↔ n.testBit p = false := by
  rw [n_shr hn hp, show (1 : Int32) = nI 1 from rfl, show (0 : Int32) = nI 0 from rfl, nx_and, nI_eq (Nat.lt_of_le_of_lt Nat.and_le_right (by omega)) (by omega), Nat.and_comm]
  unfold Nat.testBit
  simp
theorem nI_max {a b : Nat} (ha : a < 2 ^ 31) (hb : b < 2 ^ 31) : (if nI a < nI b then nI b else nI a) = nI (max a b) := by
  by_cases c : a < b
  · rw [if_pos ((nI_ltI ha hb).mpr c), Nat.max_eq_right (by omega)]
  · rw [if_neg (fun q => c ((nI_ltI ha hb).mp q)), Nat.max_eq_left (by omega)]
theorem nI_min {a b : Nat} (ha : a < 2 ^ 31) (hb : b < 2 ^ 31) : (if nI a < nI b then nI a else nI b) = nI (min a b) := by
  by_cases c : a < b
  · rw [if_pos ((nI_ltI ha hb).mpr c), Nat.min_eq_left (by omega)]
  · rw [if_neg (fun q => c ((nI_ltI ha hb).mp q)), Nat.min_eq_right (by omega)]
theorem line_ne {w f t : Nat} (h : f ≠ t) : ¬ (dxx w f t = 0 ∧ dyy w f t = 0) := by
  rintro ⟨h1, h2⟩
  have e1 := ddf_0.mp h1
  have e2 := ddf_0.mp h2
  apply h
  rw [← Nat.div_add_mod f w, ← Nat.div_add_mod t w, e1, e2]
def rchK (k x y : Nat) : Bool :=
  if k = 0 then x + y == 1
  else if k = 1 then x == 1 && y == 1
  else if k = 2 then decide (x ≤ 1) && decide (y ≤ 1) && decide (0 < x + y)
  else if k = 3 then (x == 1 && y == 2) || (x == 2 && y == 1)
  else if k = 4 then x == 2 && y == 2
  else if k = 5 then (x == 0) != (y == 0)
  else if k = 6 then x == y && decide (0 < x)
  else if k = 7 then ((x == 0) != (y == 0)) || (x == y && decide (0 < x))
  else (x == 2 && y == 0) || (x == 0 && y == 2)
theorem rch_K {g : Gm} {m f t : Nat} {cap : Bool} (hk : qk g m < 9) : rch g m f t 0 cap = rchK (qk g m) (dxx (qw g) f t) (dyy (qw g) f t) := by
  have clr0 : clr (qw g) f t 0 = true := by unfold clr; rw [Nat.and_zero]; rfl
  unfold rch rchK
  rw [clr0]
  generalize qk g m = k at hk ⊢
  have hk' : k = 0 ∨ k = 1 ∨ k = 2 ∨ k = 3 ∨ k = 4 ∨ k = 5 ∨ k = 6 ∨ k = 7 ∨ k = 8 := by omega
  rcases hk' with rfl | rfl | rfl | rfl | rfl | rfl | rfl | rfl | rfl <;> simp
theorem rchK_st : ∀ k, k < 9 → ∀ x, x < 12 → ∀ y, y < 12 → (decide (x = 0 ∧ y = 0) || (rchK k x y == (st2 k x y || rd2 k x y))) = true := by decide +kernel
theorem rd2_line : ∀ k, k < 9 → ∀ x, x < 12 → ∀ y, y < 12 → (decide (x = 0 ∧ y = 0) || (!rd2 k x y || ((((x == 0) != (y == 0)) || (x == y && decide (0 < x)))))) = true := by decide +kernel
theorem upP {a b : Nat} (ha : a < 2 ^ 30) (hb : b < 2 ^ 30) : (nI a - nI b = 1 ↔ a = b + 1) ∧ (nI a - nI b = -1 ↔ a + 1 = b) := by
  have e := sgn_sub ha hb
  constructor
  · rw [← Int32.toInt_inj, e, show (1 : Int32).toInt = 1 from rfl]; omega
  · rw [← Int32.toInt_inj, e, show (-1 : Int32).toInt = -1 from rfl]; omega
section
variable {E : Wd} {h : Hp} {r : Nat} {g : Gm} {d : Nat}
theorem c_between {Q : Int32 → Hp → Prop} {f t : Nat} (K : Kr E h r g) (w : qF g) (hf : f < sq g) (ht : t < sq g) (hl : lineB (qw g) f t = true) (hq : Q (if way (qw g) f t &&& qo g = 0 then nI (way (qw g) f t) else -1) h) :
    OkI E YX2_between (d + 1) [.ref r, .int (nI f), .int (nI (t % qw g) - nI (f % qw g)), .int (nI (t / qw g) - nI (f / qw g))] h Q := by
  refine rnX2_between (fun K35 k35 => ?_)
  have hsq := w.sq_lt
  have hw : 2 ≤ qw g ∧ qw g ≤ 6 := ⟨w.1, w.2.1⟩
  have ho := w.ho
  obtain ⟨g1, g2, g3⟩ := geo (qw g) (by omega) hw.1 f (by omega) t (by omega) hl
  have m1 := Nat.mod_le t (qw g)
  have m2 := Nat.mod_le f (qw g)
  have m3 := Nat.div_le_self t (qw g)
  have m4 := Nat.div_le_self f (qw g)
  have x1 : dxx (qw g) f t < 12 := ddf_lt 12 (by omega) (by omega)
  have y1 : dyy (qw g) f t < 12 := ddf_lt 12 (by omega) (by omega)
  refine c_direction (by omega) (by omega) (c_direction (by omega) (by omega) ?_)
  simp only [K.fs, true_and]
  rw [abs_ddf (by omega) (by omega), abs_ddf (by omega) (by omega), nI_max (a := ddf (t % qw g) (f % qw g)) (b := ddf (t / qw g) (f / qw g)) (Nat.lt_trans x1 (by omega)) (Nat.lt_trans y1 (by omega))]
  have est : Int32.ofInt (sgn (t % qw g) (f % qw g)) + Int32.ofInt (sgn (t / qw g) (f / qw g)) * nI (qw g) = Int32.ofInt (strd (qw g) f t) := by
    rw [strd, Int32.ofInt_add, Int32.ofInt_mul, Int32.add_comm]
    rfl
  rw [est]
  have esx : max (ddf (t % qw g) (f % qw g)) (ddf (t / qw g) (f / qw g)) = steps (qw g) f t := rfl
  rw [esx]
  have hst : steps (qw g) f t < 12 := by unfold steps; omega
  have hW : way (qw g) f t < 2 ^ sq g := wayN_lt w hf ht hl _ (by omega)
  have hp12 : 2 ^ sq g ≤ 2 ^ 12 := Nat.pow_le_pow_right (by omega) hsq.1
  have loop := lp_up (K := fun i => K35 r (nI f) (Int32.ofInt (strd (qw g) f t)) (nI (steps (qw g) f t)) (nI (wayN (qw g) f t i)) (nI (i + 1)) h) (steps (qw g) f t - 1) (fun i hi ih => by
    obtain ⟨p1, p2, p3⟩ := g3 (i + 1) (by omega)
    obtain ⟨q, hqe⟩ : ∃ q : Nat, (f : Int) + ((i + 1 : Nat) : Int) * strd (qw g) f t = (q : Int) := ⟨_, (Int.toNat_of_nonneg p1).symm⟩
    rw [hqe] at p2
    refine k35 _ _ _ _ _ _ _ ?_
    simp only [vcX2_between_35, nI_leI (show steps (qw g) f t < 2 ^ 31 by omega) (show i + 1 < 2 ^ 31 by omega)]
    refine ⟨fun c => absurd c (by omega), fun _ => ?_⟩
    have e2 : nI f + nI (i + 1) * Int32.ofInt (strd (qw g) f t) = nI q := by
      rw [← ofI f, ← ofI (i + 1), ← Int32.ofInt_mul, ← Int32.ofInt_add, hqe, ofI]
    rw [e2, n_shl q (by omega), nx_or, nI_1]
    rw [wayN, hqe] at ih
    exact ih) (by
    refine k35 _ _ _ _ _ _ _ ?_
    simp only [vcX2_between_35, K.fs, true_and, show steps (qw g) f t - 1 + 1 = steps (qw g) f t by omega]
    refine ⟨fun _ => ?_, fun c => absurd (nI_le (Nat.le_refl _) (by omega)) c⟩
    have e : wayN (qw g) f t (steps (qw g) f t - 1) = way (qw g) f t := rfl
    rw [e, and_grd w hW, show (0 : Int32) = nI 0 from rfl, nI_eq (Nat.lt_of_le_of_lt Nat.and_le_left (by omega)) (by omega)]
    refine ⟨fun c => ?_, fun c => ?_⟩
    · rw [if_neg c] at hq; exact hq
    · rw [if_pos c] at hq; exact hq) 0 (Nat.zero_le _)
  exact loop
theorem c_way {Q : Int32 → Hp → Prop} {m f t : Nat} {cap : Bool} (K : Kr E h r g) (w : qF g) (hm : m < qn g) (hf : f < sq g) (ht : t < sq g) (hq : Q (wy g m f t cap) h) : OkI E YX2_way (d + 2) [.ref r, .int (nI m), .int (nI f), .int (nI t), .int (bI cap)] h Q := by
  refine rnX2_way ?_
  have hsq := w.sq_lt
  have hw : 2 ≤ qw g ∧ qw g ≤ 6 := ⟨w.1, w.2.1⟩
  have hn : qn g ≤ 3 := w.2.2.2.2.2.2.1
  have ho := w.ho
  have hne : ¬ nI (qw g) = (0 : Int32) := nI_ne0 (by omega) (by omega)
  have hk : qk g m < 10 := w.2.2.2.2.2.2.2.2.2.2 m
  have m1 := Nat.mod_le t (qw g)
  have m2 := Nat.mod_le f (qw g)
  have m3 := Nat.div_le_self t (qw g)
  have m4 := Nat.div_le_self f (qw g)
  have x1 : dxx (qw g) f t < 12 := ddf_lt 12 (by omega) (by omega)
  have y1 : dyy (qw g) f t < 12 := ddf_lt 12 (by omega) (by omega)
  have no : wyB g m f t cap = false → Q (-1) h := fun e => by rw [wy, e] at hq; exact hq
  have yes : wyB g m f t cap = true → Q (nI (wyM g m f t)) h := fun e => by rw [wy, e] at hq; exact hq
  simp only [vcX2_way_0, K.fs, true_and, nI_eq (show f < 2 ^ 31 by omega) (show t < 2 ^ 31 by omega), n_has0 (n := grd g) (p := t) (by have := grd_lt w; omega) (by omega), grd_bit g t (by omega), decide_eq_true ht, Bool.true_and, Bool.not_eq_false']
  refine ⟨fun c => absurd c (show ¬ nI (qw g) < (1 : Int32) from nI_nlt (a := qw g) (b := 1) (by omega) (by omega)), fun _ => ⟨fun c => no ?_, fun c => ⟨fun c2 => ?_, fun c2 => no ?_⟩⟩⟩
  · unfold wyB; rw [decide_eq_false (fun q => q c)]; rfl
  · have c2 : (qo g).testBit t = false := by simpa using c2
    refine ⟨hne, hne, hne, hne, c_kindOf K w ?_⟩
    have hkd : kdO g (nI m) = nI (qk g m) := by
      unfold kdO
      rw [isM_nat w (by omega), decide_eq_true hm, if_pos rfl, n_cl]
    rw [hkd, pk_rem (show t < 2 ^ 31 by omega) (show 0 < qw g by omega) (show qw g < 2 ^ 31 by omega), pk_rem (show f < 2 ^ 31 by omega) (show 0 < qw g by omega) (show qw g < 2 ^ 31 by omega), pk_div (show t < 2 ^ 31 by omega) (show 0 < qw g by omega) (show qw g < 2 ^ 31 by omega), pk_div (show f < 2 ^ 31 by omega) (show 0 < qw g by omega) (show qw g < 2 ^ 31 by omega)]
    have hx0 := line_ne (w := qw g) c
    obtain ⟨x, ex⟩ : ∃ x, dxx (qw g) f t = x := ⟨_, rfl⟩
    obtain ⟨y, ey⟩ : ∃ y, dyy (qw g) f t = y := ⟨_, rfl⟩
    have clr0 : clr (qw g) f t 0 = true := by unfold clr; rw [Nat.and_zero]; rfl
    rw [abs_ddf (by omega) (by omega), abs_ddf (by omega) (by omega)]
    have ex' : ddf (t % qw g) (f % qw g) = x := ex
    have ey' : ddf (t / qw g) (f / qw g) = y := ey
    rw [ex', ey']
    rw [ex] at x1 hx0
    rw [ey] at y1 hx0
    have hB : wyB g m f t cap = (rch g m f t 0 cap && (wyM g m f t &&& qo g == 0)) := by
      unfold wyB; rw [decide_eq_true c, c2]; simp
    rw [(ks (show qk g m < 2 ^ 31 by omega)).2.2.2.2.2.2.2.2.2]
    obtain ⟨k, ek⟩ : ∃ k, qk g m = k := ⟨_, rfl⟩
    rw [ek] at hk ⊢
    refine ⟨fun c9 => ?_, fun c9 => ?_⟩
    · -- no pawn
      have hK : rch g m f t 0 cap = rchK k x y := by rw [rch_K (by omega), ek, ex, ey]
      have hsr : rchK k x y = (st2 k x y || rd2 k x y) := by
        have := rchK_st k (by omega) x x1 y y1
        rw [decide_eq_false hx0, Bool.false_or] at this
        exact beq_iff_eq.mp this
      have hS : ¬ (5 ≤ k ∧ k ≤ 7) → wyM g m f t = 0 := fun q => by unfold wyM; rw [ek, if_neg q]
      refine c_isStep hk x1 y1 (bI_c (fun c3 => ?_) (fun c3 => ?_))
      · refine c_isRide hk x1 y1 (bI_c (fun c4 => no ?_) (fun c4 => ?_))
        · have : rch g m f t 0 cap = false := by
            rw [hK, hsr, c3, c4]; rfl
          rw [hB, this]; rfl
        · have h57 : 5 ≤ k ∧ k ≤ 7 := by
            unfold rd2 at c4
            refine Decidable.byContradiction (fun q => ?_)
            rw [if_neg (by omega), if_neg (by omega), if_neg (by omega)] at c4
            cases c4
          have hr : rch g m f t 0 cap = true ∧ lineB (qw g) f t = true := by
            refine ⟨by rw [hK, hsr, c4, Bool.or_true], ?_⟩
            have := rd2_line k (by omega) x x1 y y1
            rw [decide_eq_false hx0, Bool.false_or, c4, Bool.not_true, Bool.false_or] at this
            unfold lineB
            rw [ex, ey]; exact this
          refine c_between K w hf ht hr.2 ?_
          have hM : wyM g m f t = way (qw g) f t := by unfold wyM; rw [ek, if_pos h57]
          rw [← hM]
          split
          · rename_i q
            exact yes (by rw [hB, hr.1, q]; rfl)
          · rename_i q
            exact no (by rw [hB, hr.1]; simpa using q)
      · have h57 : ¬ (5 ≤ k ∧ k ≤ 7) := by
          rintro ⟨q1, q2⟩
          have : k = 5 ∨ k = 6 ∨ k = 7 := by omega
          rcases this with rfl | rfl | rfl <;> simp [st2] at c3
        have hr : rch g m f t 0 cap = true := by rw [hK, hsr, c3, Bool.true_or]
        have := yes (by rw [hB, hr, hS h57]; simp)
        rw [hS h57] at this
        exact this
    · have hM : wyM g m f t = 0 := by unfold wyM; rw [ek, if_neg (by omega)]
      rw [hM] at yes hB
      rw [Nat.zero_and, beq_self_eq_true, Bool.and_true] at hB
      obtain ⟨u1, u2⟩ := upP (a := t / qw g) (b := f / qw g) (by omega) (by omega)
      have hr : rch g m f t 0 cap = ((if m < qb g then t / qw g == f / qw g + 1 else t / qw g + 1 == f / qw g) && x == (if cap then 1 else 0)) := by
        unfold rch
        rw [ek, ex, ey, c9]
        simp
      have fin : ∀ b : Bool, b = (if m < qb g then t / qw g == f / qw g + 1 else t / qw g + 1 == f / qw g) → (b = false → Q (-1) h) ∧ (b = true → (bI cap = 0 → vcX2_way_107 E (d + 1) (nI x) 0 h Q) ∧ (¬ bI cap = 0 → vcX2_way_107 E (d + 1) (nI x) 1 h Q)) := fun b hb => by
        rw [← hb] at hr
        refine ⟨fun q => no (by rw [hB, hr, q]; rfl), fun q => bI_c (fun q2 => ?_) (fun q2 => ?_)⟩
        · subst q2
          rw [q, Bool.true_and] at hr
          refine ⟨fun q3 => no (by rw [hB, hr]; simpa using (fun e => q3 (by rw [e]; rfl))), fun q3 => yes (by rw [hB, hr]; simpa using (nI_eq (b := 0) (by omega) (by omega)).mp q3)⟩
        · subst q2
          rw [q, Bool.true_and] at hr
          refine ⟨fun q3 => no (by rw [hB, hr]; simpa using (fun e => q3 (by rw [e]; rfl))), fun q3 => yes (by rw [hB, hr]; simpa using (nI_eq (b := 1) (by omega) (by omega)).mp q3)⟩
      refine ⟨⟨_, K.1⟩, c_sideOf K w (by omega) ?_⟩
      by_cases cb : m < qb g
      · rw [if_pos cb] at fin ⊢
        obtain ⟨f0, f1⟩ := fin _ rfl
        refine ⟨fun q => absurd rfl q, fun _ => ⟨fun q => f0 (by simpa using fun e => q (u1.mpr e)), fun q => ?_⟩⟩
        rw [abs_ddf (by omega) (by omega), ex']
        exact f1 (by simpa using u1.mp q)
      · rw [if_neg cb] at fin ⊢
        obtain ⟨f0, f1⟩ := fin _ rfl
        refine ⟨fun _ => ⟨fun q => f0 (by simpa using fun e => q (u2.mpr e)), fun q => ?_⟩, fun q => absurd q (by decide)⟩
        rw [abs_ddf (by omega) (by omega), ex']
        exact f1 (by simpa using u2.mp q)
  · have c2 : (qo g).testBit t = true := by simpa using c2
    unfold wyB; rw [c2]; simp
end
