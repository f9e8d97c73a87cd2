def Ps (g : Gm) (x : Nat) : Bool := decide (x < nx g) && poss g (plc g x) (x % 2)
def suc (g : Gm) (x : Nat) : List Nat := (mvs g x).map (fun v => v.2.2.2)
def Ld (g : Gm) : Nat → Nat → Int32 × Int32 × Bool
  | 0, x => if Ps g x && (mvs g x).isEmpty then (endV g x, if endV g x = 0 then -5 else 0, true) else (0, -5, false)
  | n + 1, x => if Ps g x && !(Ld g n x).2.2 then
      (if (suc g x).any (fun y => (Ld g n y).1 == -1) then (1, nI (n + 1), true)
       else if (suc g x).all (fun y => (Ld g n y).1 == 1) then (-1, nI (n + 1), true) else (0, -5, false))
    else Ld g n x
theorem plc_ixo {g : Gm} {P : Nat → Nat} {s : Nat} (hs : s ≤ 1) (hP : ∀ m, m < 3 → P m ≤ sq g) : ixo g P s % 2 = s ∧ ixo g P s < nx g ∧ ∀ m, m < 3 → plc g (ixo g P s) m = P m := by
  have h0 := hP 0 (by omega)
  have h1 := hP 1 (by omega)
  have h2 := hP 2 (by omega)
  obtain ⟨b, hb⟩ : ∃ b, sq g + 1 = b := ⟨_, rfl⟩
  have e2 : ixo g P s / 2 = (P 0 * b + P 1) * b + P 2 := by unfold ixo; rw [hb]; omega
  have bp : 0 < b := by omega
  have e3 : ixo g P s / 2 / b = P 0 * b + P 1 := by
    rw [e2, Nat.mul_comm _ b, Nat.mul_add_div bp, Nat.div_eq_of_lt (by omega), Nat.add_zero]
  have e4 : ixo g P s / 2 % b = P 2 := by rw [e2, Nat.mul_comm _ b, Nat.mul_add_mod, Nat.mod_eq_of_lt (by omega)]
  have e5 : ixo g P s / 2 / b / b = P 0 := by rw [e3, Nat.mul_comm _ b, Nat.mul_add_div bp, Nat.div_eq_of_lt (by omega), Nat.add_zero]
  have e6 : ixo g P s / 2 / b % b = P 1 := by rw [e3, Nat.mul_comm _ b, Nat.mul_add_mod, Nat.mod_eq_of_lt (by omega)]
  refine ⟨by unfold ixo; omega, ?_, fun m hm => ?_⟩
  · have q1 : P 0 * b + P 1 < b * b := by
      have := Nat.mul_le_mul_right b (show P 0 ≤ b - 1 by omega)
      have e : (b - 1) * b = b * b - b := by rw [Nat.sub_mul, Nat.one_mul]
      have : b ≤ b * b := Nat.le_mul_of_pos_left b bp
      omega
    have q2 : (P 0 * b + P 1) * b + P 2 < b * b * b := by
      have := Nat.mul_le_mul_right b (show P 0 * b + P 1 ≤ b * b - 1 by omega)
      have e : (b * b - 1) * b = b * b * b - b := by rw [Nat.sub_mul, Nat.one_mul]
      have : b ≤ b * b * b := Nat.le_mul_of_pos_left b (Nat.mul_pos bp bp)
      omega
    unfold nx ixo
    rw [hb]
    omega
  · unfold plc
    rw [hb]
    have : m = 0 ∨ m = 1 ∨ m = 2 := by omega
    rcases this with rfl | rfl | rfl
    · rw [if_pos rfl]; exact e5
    · rw [if_neg (by omega), if_pos rfl]; exact e6
    · rw [if_neg (by omega), if_neg (by omega)]; exact e4
