def rlen (j : Nat) : Nat := if j = 1 then 40 else if j < 5 then 10 else if j < 12 then 3 else if j = 12 then 6 else if j < 41 then 36 else if j < 47 then 4394 else if j < 49 then 3 else if j < 53 then 41 else 61
def rty (j : Nat) : Nat := if 41 ≤ j ∧ j < 44 ∨ j = 51 ∨ j = 52 then 1 else 0
def rO (j : Nat) : Bool := j == 5 || j == 13 || j == 20 || j == 27 || j == 34
def rK (j : Nat) : Bool := decide (1 ≤ j ∧ j < 54) && !rO j
def rfs (M : Nat) (f : Nat → Int32) : List Value := [.ref (M + 1), .int (f 1), .int (f 2), .int (f 3), .ref (M + 2), .ref (M + 3), .ref (M + 4), .int (f 7), .ref (M + 5), .ref (M + 12), .ref (M + 13), .ref (M + 20), .ref (M + 27), .ref (M + 34), .ref (M + 41), .ref (M + 42), .ref (M + 43), .ref (M + 44), .ref (M + 45), .ref (M + 46), .int (f 20), .ref (M + 47), .ref (M + 48), .int (f 23), .int (f 24), .ref (M + 49), .ref (M + 50), .ref (M + 51), .ref (M + 52), .ref (M + 53), .int (f 30), .int (f 31)]
def rcell (E : Wd) (M : Nat) (A : Nat → Nat → Int32) (f : Nat → Int32) (j : Nat) : va_E :=
  if j = 0 then .inr (8, rfs M f) else if rO j = true then .inl (eA E 2, 6, .inr (.inr (.inr (.inr (fun i => if i < 6 then some (M + j + 1 + i) else none))))) else .inl (eA E (rty j), rlen j, .inl (A j))
def Rf (E : Wd) (h0 h : Hp) (M : Nat) (A : Nat → Nat → Int32) (f : Nat → Int32) : Prop :=
  (∀ j, j < 54 → h.2 (M + j) = some (rcell E M A f j)) ∧ h0.1 ≤ h.1 ∧ ∀ a, a < h0.1 → a < M ∨ M + 54 ≤ a → h.2 a = h0.2 a
def up2 (A : Nat → Nat → Int32) (j i : Nat) (x : Int32) : Nat → Nat → Int32 := fun j' i' => if j' = j ∧ i' = i then x else A j' i'
section
variable {E : Wd} {h0 h : Hp} {M : Nat} {A : Nat → Nat → Int32} {f : Nat → Int32}
theorem Rf.obj (R : Rf E h0 h M A f) : h.2 M = some (.inr (8, rfs M f)) := by
  have := R.1 0 (by omega)
  simpa [rcell] using this
theorem Rf.arr (R : Rf E h0 h M A f) {j : Nat} (hj : rK j = true) : h.2 (M + j) = some (.inl (eA E (rty j), rlen j, .inl (A j))) := by
  simp only [rK, Bool.and_eq_true, decide_eq_true_eq, Bool.not_eq_true'] at hj
  have := R.1 j (by omega)
  rw [this, rcell, if_neg (by omega), if_neg (by simp [hj.2])]
theorem Rf.out (R : Rf E h0 h M A f) {j : Nat} (hj : rO j = true) : h.2 (M + j) = some (.inl (eA E 2, 6, .inr (.inr (.inr (.inr (fun i => if i < 6 then some (M + j + 1 + i) else none)))))) := by
  have h1 : j = 5 ∨ j = 13 ∨ j = 20 ∨ j = 27 ∨ j = 34 := by simpa [rO, or_assoc] using hj
  have := R.1 j (by omega)
  rw [this, rcell, if_neg (by omega), if_pos hj]
theorem Rf.gR (R : Rf E h0 h M A f) (j : Nat) (i : Int32) (hj : rK j = true) : gA h (M + j) i = A j i.toNatClampNeg := gA_of (R.arr hj)
theorem Rf.oR (R : Rf E h0 h M A f) (j : Nat) (i : Int32) (hj : rK j = true) (ht : rty j = 0) (hi : vp_in i (rlen j)) : okR E h (M + j) 0 i := by
  exact ⟨rlen j, A j, by rw [R.arr hj, ht], hi⟩
theorem Rf.oZ (R : Rf E h0 h M A f) (j : Nat) (i : Int32) (hj : rK j = true) (ht : rty j = 1) (hi : vp_in i (rlen j)) : okR E h (M + j) 1 i := by
  exact ⟨rlen j, A j, by rw [R.arr hj, ht], hi⟩
theorem Rf.oW (R : Rf E h0 h M A f) (j : Nat) (i : Int32) (hj : rO j = true) (hi : vp_in i 6) : okW E h (M + j) i := by
  refine ⟨6, _, M + j + 1 + i.toNatClampNeg, R.out hj, hi, ?_⟩
  rw [if_pos (Nat.not_le.mp fun q => hi (Or.inr q))]
theorem Rf.gV (R : Rf E h0 h M A f) (j : Nat) (i : Int32) (hj : rO j = true) (hi : vp_in i 6) : gW h (M + j) i = M + (j + 1 + i.toNatClampNeg) := by
  rw [gW_of (R.out hj) (b := M + j + 1 + i.toNatClampNeg) (by rw [if_pos (Nat.not_le.mp fun q => hi (Or.inr q))])]
  omega
theorem Rf.fs (R : Rf E h0 h M A f) : isO h M 8 ∧ okP h M 8 0 ∧ okA h M 8 0 ∧ vA (hF h M 0) = M + 1 ∧ okP h M 8 1 ∧ okI h M 8 1 ∧ vI (hF h M 1) = f 1 ∧ okP h M 8 2 ∧ okI h M 8 2 ∧ vI (hF h M 2) = f 2 ∧ okP h M 8 3 ∧ okI h M 8 3 ∧ vI (hF h M 3) = f 3 ∧ okP h M 8 4 ∧ okA h M 8 4 ∧ vA (hF h M 4) = M + 2 ∧ okP h M 8 5 ∧ okA h M 8 5 ∧ vA (hF h M 5) = M + 3 ∧ okP h M 8 6 ∧ okA h M 8 6 ∧ vA (hF h M 6) = M + 4 ∧ okP h M 8 7 ∧ okI h M 8 7 ∧ vI (hF h M 7) = f 7 ∧ okP h M 8 8 ∧ okA h M 8 8 ∧ vA (hF h M 8) = M + 5 ∧ okP h M 8 9 ∧ okA h M 8 9 ∧ vA (hF h M 9) = M + 12 ∧ okP h M 8 10 ∧ okA h M 8 10 ∧ vA (hF h M 10) = M + 13 ∧ okP h M 8 11 ∧ okA h M 8 11 ∧ vA (hF h M 11) = M + 20 ∧ okP h M 8 12 ∧ okA h M 8 12 ∧ vA (hF h M 12) = M + 27 ∧ okP h M 8 13 ∧ okA h M 8 13 ∧ vA (hF h M 13) = M + 34 ∧ okP h M 8 14 ∧ okA h M 8 14 ∧ vA (hF h M 14) = M + 41 ∧ okP h M 8 15 ∧ okA h M 8 15 ∧ vA (hF h M 15) = M + 42 ∧ okP h M 8 16 ∧ okA h M 8 16 ∧ vA (hF h M 16) = M + 43 ∧ okP h M 8 17 ∧ okA h M 8 17 ∧ vA (hF h M 17) = M + 44 ∧ okP h M 8 18 ∧ okA h M 8 18 ∧ vA (hF h M 18) = M + 45 ∧ okP h M 8 19 ∧ okA h M 8 19 ∧ vA (hF h M 19) = M + 46 ∧ okP h M 8 20 ∧ okI h M 8 20 ∧ vI (hF h M 20) = f 20 ∧ okP h M 8 21 ∧ okA h M 8 21 ∧ vA (hF h M 21) = M + 47 ∧ okP h M 8 22 ∧ okA h M 8 22 ∧ vA (hF h M 22) = M + 48 ∧ okP h M 8 23 ∧ okI h M 8 23 ∧ vI (hF h M 23) = f 23 ∧ okP h M 8 24 ∧ okI h M 8 24 ∧ vI (hF h M 24) = f 24 ∧ okP h M 8 25 ∧ okA h M 8 25 ∧ vA (hF h M 25) = M + 49 ∧ okP h M 8 26 ∧ okA h M 8 26 ∧ vA (hF h M 26) = M + 50 ∧ okP h M 8 27 ∧ okA h M 8 27 ∧ vA (hF h M 27) = M + 51 ∧ okP h M 8 28 ∧ okA h M 8 28 ∧ vA (hF h M 28) = M + 52 ∧ okP h M 8 29 ∧ okA h M 8 29 ∧ vA (hF h M 29) = M + 53 ∧ okP h M 8 30 ∧ okI h M 8 30 ∧ vI (hF h M 30) = f 30 ∧ okP h M 8 31 ∧ okI h M 8 31 ∧ vI (hF h M 31) = f 31 :=
  ⟨⟨_, R.obj⟩, ⟨_, R.obj, Nat.le_of_ble_eq_true rfl⟩, ⟨_, _, R.obj, rfl⟩, (by rw [hF_of R.obj rfl]; rfl), ⟨_, R.obj, Nat.le_of_ble_eq_true rfl⟩, ⟨_, _, R.obj, rfl⟩, (by rw [hF_of R.obj rfl]; rfl), ⟨_, R.obj, Nat.le_of_ble_eq_true rfl⟩, ⟨_, _, R.obj, rfl⟩, (by rw [hF_of R.obj rfl]; rfl), ⟨_, R.obj, Nat.le_of_ble_eq_true rfl⟩, ⟨_, _, R.obj, rfl⟩, (by rw [hF_of R.obj rfl]; rfl), ⟨_, R.obj, Nat.le_of_ble_eq_true rfl⟩, ⟨_, _, R.obj, rfl⟩, (by rw [hF_of R.obj rfl]; rfl), ⟨_, R.obj, Nat.le_of_ble_eq_true rfl⟩, ⟨_, _, R.obj, rfl⟩, (by rw [hF_of R.obj rfl]; rfl), ⟨_, R.obj, Nat.le_of_ble_eq_true rfl⟩, ⟨_, _, R.obj, rfl⟩, (by rw [hF_of R.obj rfl]; rfl), ⟨_, R.obj, Nat.le_of_ble_eq_true rfl⟩, ⟨_, _, R.obj, rfl⟩, (by rw [hF_of R.obj rfl]; rfl), ⟨_, R.obj, Nat.le_of_ble_eq_true rfl⟩, ⟨_, _, R.obj, rfl⟩, (by rw [hF_of R.obj rfl]; rfl), ⟨_, R.obj, Nat.le_of_ble_eq_true rfl⟩, ⟨_, _, R.obj, rfl⟩, (by rw [hF_of R.obj rfl]; rfl), ⟨_, R.obj, Nat.le_of_ble_eq_true rfl⟩, ⟨_, _, R.obj, rfl⟩, (by rw [hF_of R.obj rfl]; rfl), ⟨_, R.obj, Nat.le_of_ble_eq_true rfl⟩, ⟨_, _, R.obj, rfl⟩, (by rw [hF_of R.obj rfl]; rfl), ⟨_, R.obj, Nat.le_of_ble_eq_true rfl⟩, ⟨_, _, R.obj, rfl⟩, (by rw [hF_of R.obj rfl]; rfl), ⟨_, R.obj, Nat.le_of_ble_eq_true rfl⟩, ⟨_, _, R.obj, rfl⟩, (by rw [hF_of R.obj rfl]; rfl), ⟨_, R.obj, Nat.le_of_ble_eq_true rfl⟩, ⟨_, _, R.obj, rfl⟩, (by rw [hF_of R.obj rfl]; rfl), ⟨_, R.obj, Nat.le_of_ble_eq_true rfl⟩, ⟨_, _, R.obj, rfl⟩, (by rw [hF_of R.obj rfl]; rfl), ⟨_, R.obj, Nat.le_of_ble_eq_true rfl⟩, ⟨_, _, R.obj, rfl⟩, (by rw [hF_of R.obj rfl]; rfl), ⟨_, R.obj, Nat.le_of_ble_eq_true rfl⟩, ⟨_, _, R.obj, rfl⟩, (by rw [hF_of R.obj rfl]; rfl), ⟨_, R.obj, Nat.le_of_ble_eq_true rfl⟩, ⟨_, _, R.obj, rfl⟩, (by rw [hF_of R.obj rfl]; rfl), ⟨_, R.obj, Nat.le_of_ble_eq_true rfl⟩, ⟨_, _, R.obj, rfl⟩, (by rw [hF_of R.obj rfl]; rfl), ⟨_, R.obj, Nat.le_of_ble_eq_true rfl⟩, ⟨_, _, R.obj, rfl⟩, (by rw [hF_of R.obj rfl]; rfl), ⟨_, R.obj, Nat.le_of_ble_eq_true rfl⟩, ⟨_, _, R.obj, rfl⟩, (by rw [hF_of R.obj rfl]; rfl), ⟨_, R.obj, Nat.le_of_ble_eq_true rfl⟩, ⟨_, _, R.obj, rfl⟩, (by rw [hF_of R.obj rfl]; rfl), ⟨_, R.obj, Nat.le_of_ble_eq_true rfl⟩, ⟨_, _, R.obj, rfl⟩, (by rw [hF_of R.obj rfl]; rfl), ⟨_, R.obj, Nat.le_of_ble_eq_true rfl⟩, ⟨_, _, R.obj, rfl⟩, (by rw [hF_of R.obj rfl]; rfl), ⟨_, R.obj, Nat.le_of_ble_eq_true rfl⟩, ⟨_, _, R.obj, rfl⟩, (by rw [hF_of R.obj rfl]; rfl), ⟨_, R.obj, Nat.le_of_ble_eq_true rfl⟩, ⟨_, _, R.obj, rfl⟩, (by rw [hF_of R.obj rfl]; rfl), ⟨_, R.obj, Nat.le_of_ble_eq_true rfl⟩, ⟨_, _, R.obj, rfl⟩, (by rw [hF_of R.obj rfl]; rfl), ⟨_, R.obj, Nat.le_of_ble_eq_true rfl⟩, ⟨_, _, R.obj, rfl⟩, (by rw [hF_of R.obj rfl]; rfl), ⟨_, R.obj, Nat.le_of_ble_eq_true rfl⟩, ⟨_, _, R.obj, rfl⟩, (by rw [hF_of R.obj rfl]; rfl), ⟨_, R.obj, Nat.le_of_ble_eq_true rfl⟩, ⟨_, _, R.obj, rfl⟩, (by rw [hF_of R.obj rfl]; rfl), ⟨_, R.obj, Nat.le_of_ble_eq_true rfl⟩, ⟨_, _, R.obj, rfl⟩, (by rw [hF_of R.obj rfl]; rfl)⟩
theorem Rf.put (R : Rf E h0 h M A f) {k : Nat} {x : Int32} (hk : (rfs M f).set k (.int x) = rfs M (upd f k x)) : Rf E h0 (pF h M k (.int x)) M A (upd f k x) := by
  refine ⟨fun j hj => ?_, R.2.1, fun a ha hb => ?_⟩
  · by_cases h1 : j = 0
    · subst h1
      simp [pF, R.obj, rcell, hk]
    · have e : (pF h M k (.int x)).2 (M + j) = h.2 (M + j) := by simp [pF, h1]
      rw [e, R.1 j hj, rcell, rcell, if_neg h1, if_neg h1]
  · have e : (pF h M k (.int x)).2 a = h.2 a := by
      have : a ≠ M := by omega
      simp [pF, this]
    rw [e]
    exact R.2.2 a ha hb
theorem Rf.st (R : Rf E h0 h M A f) {j : Nat} (i x : Int32) (hj : rK j = true) : Rf E h0 (sA h (M + j) i x) M (up2 A j i.toNatClampNeg x) f := by
  have hj2 := hj
  simp only [rK, Bool.and_eq_true, decide_eq_true_eq, Bool.not_eq_true'] at hj2
  refine ⟨fun j' hj' => ?_, R.2.1, fun a ha hb => ?_⟩
  · by_cases h1 : j' = j
    · subst h1
      rw [sA_of (R.arr hj), rcell, if_neg (by omega), if_neg (by simp [hj2.2])]
      congr 5
      funext q
      simp [upd, up2]
    · have e : (sA h (M + j) i x).2 (M + j') = h.2 (M + j') := by simp [sA, h1]
      rw [e, R.1 j' hj', rcell, rcell]
      have e2 : up2 A j i.toNatClampNeg x j' = A j' := by funext q; simp [up2, h1]
      rw [e2]
  · have e : (sA h (M + j) i x).2 a = h.2 a := by
      have : a ≠ M + j := by omega
      simp [sA, this]
    rw [e]
    exact R.2.2 a ha hb
theorem Rf.A_congr {A' : Nat → Nat → Int32} (R : Rf E h0 h M A f) (e : ∀ j i, A' j i = A j i) : Rf E h0 h M A' f := by
  have : A' = A := funext fun j => funext fun i => e j i
  rw [this]
  exact R
end
