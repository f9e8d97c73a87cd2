theorem vpd {i : Int32} {n : Nat} (h : decide (¬ (i < 0 ∨ n ≤ i.toNatClampNeg)) = true) : vp_in i n := show ¬ (i < 0 ∨ n ≤ i.toNatClampNeg) from of_decide_eq_true h
theorem vpn {i n : Nat} (h : i < n) (hn : n < 2 ^ 31 := by omega) : vp_in (nI i) n := vp_in_nI h hn
def bI (b : Bool) : Int32 := if b = true then 1 else 0
theorem bI_m (b : Bool) : mB (bI b) := by cases b <;> simp [bI, mB]
theorem bI_0 {b : Bool} : bI b = 0 ↔ b = false := by cases b <;> simp [bI]
theorem bI_or (a b : Bool) : bI a ||| bI b = bI (a || b) := by cases a <;> cases b <;> rfl
theorem bI_and (a b : Bool) : bI a &&& bI b = bI (a && b) := by cases a <;> cases b <;> rfl
theorem bI_t : bI true = 1 := rfl
theorem bI_f : bI false = 0 := rfl
theorem bI_c {b : Bool} {P R : Prop} (h0 : b = false → P) (h1 : b = true → R) : (bI b = 0 → P) ∧ (¬ bI b = 0 → R) := by cases b <;> simp_all [bI]
theorem bI_c' {b : Bool} {P R : Prop} (h0 : b = false → P) (h1 : b = true → R) : (¬ bI b = 0 → R) ∧ (bI b = 0 → P) := ⟨(bI_c h0 h1).2, (bI_c h0 h1).1⟩
theorem n_lit0 : (0 : Int32) = nI 0 := rfl
theorem n_lit1 : (1 : Int32) = nI 1 := rfl
theorem n_lit2 : (2 : Int32) = nI 2 := rfl
theorem n_cl {n : Nat} (h : n < 2 ^ 31 := by omega) : (nI n).toNatClampNeg = n := nI_clamp h
theorem n_ne {a b : Nat} (ha : a < 2 ^ 31) (hb : b < 2 ^ 31) : (¬ nI a = nI b) ↔ a ≠ b := not_congr (nI_eq ha hb)
theorem nx_and (a b : Nat) : nI a &&& nI b = nI (a &&& b) := by
  apply Int32.toBitVec_inj.1
  show BitVec.ofNat 32 a &&& BitVec.ofNat 32 b = BitVec.ofNat 32 (a &&& b)
  rw [BitVec.ofNat_and]
theorem nx_or (a b : Nat) : nI a ||| nI b = nI (a ||| b) := by
  apply Int32.toBitVec_inj.1
  show BitVec.ofNat 32 a ||| BitVec.ofNat 32 b = BitVec.ofNat 32 (a ||| b)
  rw [BitVec.ofNat_or]
theorem n_shl : ∀ p, p < 31 → (1 : Int32) <<< (nI p &&& 31) = nI (2 ^ p) := by decide
theorem n_shr {n p : Nat} (hn : n < 2 ^ 31) (hp : p < 31) : nI n >>> (nI p &&& 31) = nI (n >>> p) := by
  have h1 : ((nI p &&& 31 : Int32).toBitVec.smod 32).toNat = p := by
    have : ∀ q, q < 31 → ((nI q &&& 31 : Int32).toBitVec.smod 32).toNat = q := by decide
    exact this p hp
  rw [pk_shrN hn _ p h1, Nat.shiftRight_eq_div_pow]
theorem n_has {n p : Nat} (hn : n < 2 ^ 31) (hp : p < 31) : ((nI n >>> (nI p &&& 31)) &&& 1 = (1 : Int32)) ↔ n.testBit p = true := by
  rw [n_shr hn hp, n_lit1, nx_and, nI_eq (by have := @Nat.and_le_right (n >>> p) 1; omega) (by omega)]
  simp [Nat.testBit]
theorem n_neg5 {n : Nat} (h : n < 2 ^ 31) : ¬ nI n < (-5) := by
  rw [Int32.lt_iff_toInt_lt, nI_toInt h]
  have : (-5 : Int32).toInt = -5 := rfl
  omega
