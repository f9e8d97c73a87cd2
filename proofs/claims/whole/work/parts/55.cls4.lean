def st2 (k x y : Nat) : Bool :=
  if k = 0 then x + y == 1 else if k = 1 then x == 1 && y == 1 else if k = 2 then decide (x ≤ 1) && decide (y ≤ 1) else if k = 3 then x * y == 2 else if k = 4 then x == 2 && y == 2 else if k = 8 then x + y == 2 && x != y else false
def rd2 (k x y : Nat) : Bool := if k = 5 then x == 0 || y == 0 else if k = 6 then x == y else if k = 7 then (x == 0 || y == 0) || x == y else false
def wyM (g : Gm) (m f t : Nat) : Nat := if 5 ≤ qk g m ∧ qk g m ≤ 7 then way (qw g) f t else 0
def wyB (g : Gm) (m f t : Nat) (cap : Bool) : Bool := decide (f ≠ t) && !(qo g).testBit t && rch g m f t 0 cap && (wyM g m f t &&& qo g == 0)
def wy (g : Gm) (m f t : Nat) (cap : Bool) : Int32 := if wyB g m f t cap then nI (wyM g m f t) else -1
theorem nx_xor (a b : Nat) : nI a ^^^ nI b = nI (a ^^^ b) := by
  apply Int32.toBitVec_inj.mp
  rw [Int32.toBitVec_xor]
  show BitVec.ofNat 32 a ^^^ BitVec.ofNat 32 b = BitVec.ofNat 32 (a ^^^ b)
  rw [BitVec.ofNat_xor]
theorem nx_m1 : (-1 : Int32) = nI 4294967295 := by decide
theorem grd_bit (g : Gm) (i : Nat) (hi : i < 32) : (grd g).testBit i = (decide (i < sq g) && !(qo g).testBit i) := by
  unfold grd
  rw [Nat.testBit_and, Nat.testBit_two_pow_sub_one, Nat.testBit_xor, show 4294967295 = 2 ^ 32 - 1 from rfl, Nat.testBit_two_pow_sub_one, decide_eq_true hi, Bool.xor_true]
theorem grd_lt {g : Gm} (w : qF g) : grd g < 4096 := by
  have := w.sq_lt
  have h1 : grd g ≤ 2 ^ sq g - 1 := Nat.and_le_left
  have h2 : 2 ^ sq g ≤ 2 ^ 12 := Nat.pow_le_pow_right (by omega) this.1
  have : 0 < 2 ^ sq g := Nat.two_pow_pos _
  omega
def geoC (w f t : Nat) : Bool := (List.range (steps w f t)).all (fun i => decide ((f : Int) + (i : Int) * strd w f t ≤ (max f t : Nat)))
theorem geo3 : ((List.range 7).all fun w => decide (w < 2) || (List.range 12).all fun f => (List.range 12).all fun t => !lineB w f t || geoC w f t) = true := by decide +kernel
theorem geo4 (w : Nat) (h1 : w < 7) (h2 : 2 ≤ w) (f : Nat) (h3 : f < 12) (t : Nat) (h4 : t < 12) (hl : lineB w f t = true) : ∀ i : Nat, i < steps w f t → (f : Int) + (i : Int) * strd w f t ≤ (max f t : Nat) := by
  have e := List.all_eq_true.mp geo3 w (List.mem_range.mpr h1)
  rw [decide_eq_false (by omega), Bool.false_or] at e
  have e := List.all_eq_true.mp e f (List.mem_range.mpr h3)
  have e := List.all_eq_true.mp e t (List.mem_range.mpr h4)
  rw [hl, Bool.not_true, Bool.false_or] at e
  intro i hi
  exact of_decide_eq_true (List.all_eq_true.mp e i (List.mem_range.mpr hi))
theorem wayN_lt {g : Gm} (w : qF g) {f t : Nat} (hf : f < sq g) (ht : t < sq g) (hl : lineB (qw g) f t = true) : ∀ i, i < steps (qw g) f t → wayN (qw g) f t i < 2 ^ sq g
  | 0, _ => Nat.two_pow_pos _
  | i + 1, hi => by
    have hsq := w.sq_lt
    have hw := w.1
    have hw6 := w.2.1
    have ih := wayN_lt w hf ht hl i (by omega)
    obtain ⟨p1, p2, p3⟩ := (geo (qw g) (by omega) hw f (by omega) t (by omega) hl).2.2 (i + 1) hi
    have p4 := geo4 (qw g) (by omega) hw f (by omega) t (by omega) hl (i + 1) hi
    rw [wayN]
    refine Nat.or_lt_two_pow ih (Nat.pow_lt_pow_right (by omega) ?_)
    have : max f t < sq g := by omega
    omega
theorem and_grd {g : Gm} (w : qF g) {W : Nat} (hW : W < 2 ^ sq g) : nI W &&& (nI (grd g) ^^^ (-1)) = nI (W &&& qo g) := by
  rw [nx_m1, nx_xor, nx_and]
  congr 1
  apply Nat.eq_of_testBit_eq
  intro i
  rw [Nat.testBit_and, Nat.testBit_and]
  by_cases hi : i < sq g
  · have hsq := w.sq_lt
    rw [Nat.testBit_xor, show 4294967295 = 2 ^ 32 - 1 from rfl, Nat.testBit_two_pow_sub_one, decide_eq_true (show i < 32 by omega), Bool.xor_true, grd_bit g i (by omega), decide_eq_true hi, Bool.true_and, Bool.not_not]
  · have : W.testBit i = false := Nat.testBit_lt_two_pow (Nat.lt_of_lt_of_le hW (Nat.pow_le_pow_right (by omega) (by omega)))
    rw [this, Bool.false_and, Bool.false_and]
theorem abs_ddf {a b : Nat} (ha : a < 2 ^ 30) (hb : b < 2 ^ 30) : (if (0 : Int32) ≤ nI a - nI b then nI a - nI b else 0 - (nI a - nI b)) = nI (ddf a b) := by
  have e := sgn_sub ha hb
  unfold ddf
  by_cases c : b ≤ a
  · rw [if_pos (by rw [Int32.le_iff_toInt_le, e, Int32.toInt_zero]; omega), pk_sub (by omega), show b - a = 0 by omega, Nat.add_zero]
  · rw [if_neg (by rw [Int32.le_iff_toInt_le, e, Int32.toInt_zero]; omega), Int32.zero_sub, Int32.neg_sub, pk_sub (by omega), show a - b = 0 by omega, Nat.zero_add]
section
variable {E : Wd} {h : Hp} {r : Nat} {g : Gm} {d : Nat}
theorem c_direction {Q : Int32 → Hp → Prop} {a b : Nat} (ha : a < 2 ^ 30) (hb : b < 2 ^ 30) (hq : Q (Int32.ofInt (sgn a b)) h) : OkI E YX2_direction d [.int (nI a - nI b)] h Q := by
  refine rnX2_direction ?_
  have e := sgn_sub ha hb
  simp only [vcX2_direction_0, Int32.le_iff_toInt_le, e, Int32.toInt_zero]
  refine ⟨fun c => ⟨fun c2 => ?_, fun c2 => ?_⟩, fun c => ?_⟩
  · rw [sgn, if_neg (by omega), if_neg (by omega)] at hq; exact hq
  · rw [sgn, if_pos (by omega)] at hq; exact hq
  · rw [sgn, if_neg (by omega), if_pos (by omega)] at hq; exact hq
theorem c_isStep {Q : Int32 → Hp → Prop} {k x y : Nat} (hk : k < 10) (hx : x < 12) (hy : y < 12) (hq : Q (bI (st2 k x y)) h) : OkI E YX2_isStep d [.int (nI k), .int (nI x), .int (nI y)] h Q := by
  refine rnX2_isStep ?_
  have hxy : x * y < 2 ^ 31 := Nat.lt_of_le_of_lt (Nat.mul_le_mul (show x ≤ 11 by omega) (show y ≤ 11 by omega)) (by omega)
  simp only [vcX2_isStep_0, nI_add, pk_mul, (ks (show k < 2 ^ 31 by omega)).1, (ks (show k < 2 ^ 31 by omega)).2.1, (ks (show k < 2 ^ 31 by omega)).2.2.1, (ks (show k < 2 ^ 31 by omega)).2.2.2.1, (ks (show k < 2 ^ 31 by omega)).2.2.2.2.1, (ks (show k < 2 ^ 31 by omega)).2.2.2.2.2.1, (ks (show k < 2 ^ 31 by omega)).2.2.2.2.2.2.1, (ks (show k < 2 ^ 31 by omega)).2.2.2.2.2.2.2.1, (ks (show k < 2 ^ 31 by omega)).2.2.2.2.2.2.2.2.1, (ks (show x + y < 2 ^ 31 by omega)).2.1, (ks (show x + y < 2 ^ 31 by omega)).2.2.1, (ks (show x < 2 ^ 31 by omega)).2.1, (ks (show x < 2 ^ 31 by omega)).2.2.1, (ks (show y < 2 ^ 31 by omega)).2.1, (ks (show y < 2 ^ 31 by omega)).2.2.1, (kl (show x < 2 ^ 31 by omega)).1, (kl (show y < 2 ^ 31 by omega)).1, (ks hxy).2.2.1, nI_eq (show x < 2 ^ 31 by omega) (show y < 2 ^ 31 by omega)]
  have H0 : st2 k x y = false → mB 0 ∧ Q 0 h := fun e => by rw [e] at hq; exact ⟨Or.inl rfl, hq⟩
  have H1 : st2 k x y = true → mB 1 ∧ Q 1 h := fun e => by rw [e] at hq; exact ⟨Or.inr rfl, hq⟩
  clear hq
  generalize (mB 0 ∧ Q 0 h) = P0 at H0 ⊢
  generalize (mB 1 ∧ Q 1 h) = P1 at H1 ⊢
  have hk' : k = 0 ∨ k = 1 ∨ k = 2 ∨ k = 3 ∨ k = 4 ∨ k = 5 ∨ k = 6 ∨ k = 7 ∨ k = 8 ∨ k = 9 := by omega
  rcases hk' with rfl | rfl | rfl | rfl | rfl | rfl | rfl | rfl | rfl | rfl <;> simp [st2] at H0 H1 ⊢ <;> grind
theorem c_isRide {Q : Int32 → Hp → Prop} {k x y : Nat} (hk : k < 10) (hx : x < 12) (hy : y < 12) (hq : Q (bI (rd2 k x y)) h) : OkI E YX2_isRide d [.int (nI k), .int (nI x), .int (nI y)] h Q := by
  refine rnX2_isRide ?_
  simp only [vcX2_isRide_0, vcX2_isRide_8, vcX2_isRide_13, vcX2_isRide_24, (ks (show k < 2 ^ 31 by omega)).2.2.2.2.2.1, (ks (show k < 2 ^ 31 by omega)).2.2.2.2.2.2.1, (ks (show k < 2 ^ 31 by omega)).2.2.2.2.2.2.2.1, (ks (show x < 2 ^ 31 by omega)).1, (ks (show y < 2 ^ 31 by omega)).1, nI_eq (show x < 2 ^ 31 by omega) (show y < 2 ^ 31 by omega)]
  have H0 : rd2 k x y = false → mB 0 ∧ Q 0 h := fun e => by rw [e] at hq; exact ⟨Or.inl rfl, hq⟩
  have H1 : rd2 k x y = true → mB 1 ∧ Q 1 h := fun e => by rw [e] at hq; exact ⟨Or.inr rfl, hq⟩
  clear hq
  generalize (mB 0 ∧ Q 0 h) = P0 at H0 ⊢
  generalize (mB 1 ∧ Q 1 h) = P1 at H1 ⊢
  have hk' : k = 0 ∨ k = 1 ∨ k = 2 ∨ k = 3 ∨ k = 4 ∨ k = 5 ∨ k = 6 ∨ k = 7 ∨ k = 8 ∨ k = 9 := by omega
  rcases hk' with rfl | rfl | rfl | rfl | rfl | rfl | rfl | rfl | rfl | rfl <;> simp [rd2] at H0 H1 ⊢ <;> grind
end
