theorem n_sub {a b : Nat} (h : b ≤ a) : nI a - nI b = nI (a - b) := by
  rw [Int32.sub_eq_iff_eq_add, nI_add, Nat.sub_add_cancel h]
def val (g : Gm) (x : Nat) : Int32 := (Lf g x).1
def tE (g : Gm) (x : Nat) : Int32 := (Lf g x).2.1
def tC (g : Gm) (x : Nat) : Int32 := (Cf g x).1
def vdt (g : Gm) (x : Nat) : Int32 := if ¬ ql g < 0 ∧ ¬ tC g x ≤ ql g then 0 else val g x
def RG (A : Nat → Nat → Int32) (f : Nat → Int32) (g : Gm) : Prop := rA (A 2) g ∧ qF g ∧ qV g ∧ f 20 = nI (nx g) ∧ TB A g (Lf g) ∧ TC A g (Cf g)
def FI (A A' : Nat → Nat → Int32) : Prop := ∀ j i, j ≠ 47 → j ≠ 48 → A' j i = A j i
theorem RG.of {A A' : Nat → Nat → Int32} {f : Nat → Int32} {g : Gm} (G : RG A f g) (h : ∀ j, j = 2 ∨ 41 ≤ j ∧ j < 47 → A' j = A j) : RG A' f g := by
  obtain ⟨h1, h2, h3, h4, h5, h6⟩ := G
  refine ⟨by rw [h 2 (Or.inl rfl)]; exact h1, h2, h3, h4, fun x hx => ?_, fun x hx => ?_⟩
  · rw [h 41 (by omega), h 42 (by omega), h 44 (by omega), h 45 (by omega)]; exact h5 x hx
  · rw [h 43 (by omega), h 46 (by omega)]; exact h6 x hx
theorem FI.rg {A A' : Nat → Nat → Int32} {f : Nat → Int32} {g : Gm} (F : FI A A') (G : RG A f g) : RG A' f g := G.of (fun j hj => funext fun i => F j i (by omega) (by omega))
theorem FM.rg {A A' : Nat → Nat → Int32} {f : Nat → Int32} {g g' : Gm} {e : Nat} {P : Nat → Nat} {L : List (Nat × Nat × Option Nat × Nat)} (he : e < 6) (F : FM g' A A' e P L) (G : RG A f g) : RG A' f g := G.of (fun j hj => funext fun i => F.2.2 j i (by omega) ⟨by omega, by omega, by omega, by omega, by omega⟩)
theorem FI.tr {A A' A'' : Nat → Nat → Int32} (F : FI A A') (G : FI A' A'') : FI A A'' := fun j i o1 o2 => (G j i o1 o2).trans (F j i o1 o2)
theorem FI.rfl (A : Nat → Nat → Int32) : FI A A := fun _ _ _ _ => Eq.refl _
def pawns (g : Gm) (n : Nat) : Bool := (List.range n).any (fun m => qk g m == 9)
theorem pawns_succ (g : Gm) (n : Nat) : pawns g (n + 1) = (pawns g n || qk g n == 9) := by
  unfold pawns
  rw [List.range_succ, List.any_append]
  simp
def trX (g : Gm) (s p : Nat) : Nat := if s.testBit 0 = true then qw g - 1 - p % qw g else p % qw g
def trY (g : Gm) (s p : Nat) : Nat := if s.testBit 1 = true then qh g - 1 - p / qw g else p / qw g
def trn (g : Gm) (s p : Nat) : Nat := if p = sq g then p else if s.testBit 2 = true then trX g s p * qw g + trY g s p else trY g s p * qw g + trX g s p
def isSyN (g : Gm) (s n : Nat) : Bool := (List.range n).all (fun p => (qo g).testBit p == (qo g).testBit (trn g s p))
theorem isSyN_succ (g : Gm) (s n : Nat) : isSyN g s (n + 1) = (isSyN g s n && ((qo g).testBit n == (qo g).testBit (trn g s n))) := by
  unfold isSyN
  rw [List.range_succ, List.all_append]
  simp
def isSy (g : Gm) (s : Nat) : Bool := !(pawns g (qn g) && decide (1 < s)) && !(s.testBit 2 && decide (qw g ≠ qh g)) && isSyN g s (sq g)
def imI (g : Gm) (x s : Nat) : Nat := ixo g (fun m => trn g s (plc g x m)) (x % 2)
def canN (g : Gm) (x : Nat) : Nat → Nat
  | 0 => x
  | s + 1 => min (if isSy g s = true then imI g x s else x) (canN g x s)
def can (g : Gm) (x : Nat) : Nat := canN g x 8
theorem trXY {g : Gm} (w : qF g) (s p : Nat) (hp : p < sq g) : trX g s p < qw g ∧ trY g s p < qh g := by
  have h0 : 0 < qw g := by have := w.1; omega
  have h1 : p % qw g < qw g := Nat.mod_lt _ h0
  have h2 : p / qw g < qh g := by rw [Nat.div_lt_iff_lt_mul h0, Nat.mul_comm]; exact hp
  unfold trX trY
  generalize p / qw g = z at h2 ⊢
  constructor
  · split <;> omega
  · split <;> omega
theorem trn_lt {g : Gm} (w : qF g) {s p : Nat} (hs : s.testBit 2 = true → qw g = qh g) (hp : p < sq g) : trn g s p < sq g := by
  obtain ⟨h1, h2⟩ := trXY w s p hp
  have key : ∀ a b : Nat, a < qh g → b < qw g → a * qw g + b < qw g * qh g := fun a b ha hb => by
    have := Nat.mul_le_mul_right (qw g) (show a + 1 ≤ qh g by omega)
    rw [Nat.add_mul, Nat.one_mul, Nat.mul_comm (qh g)] at this
    omega
  unfold trn
  rw [if_neg (by omega)]
  unfold sq
  split
  · rename_i c
    have := hs c
    exact key _ _ (by omega) (by omega)
  · exact key _ _ h2 h1
theorem trn_le {g : Gm} (w : qF g) {s p : Nat} (hs : s.testBit 2 = true → qw g = qh g) (hp : p ≤ sq g) : trn g s p ≤ sq g := by
  by_cases c : p = sq g
  · unfold trn; rw [if_pos c, c]; exact Nat.le_refl _
  · exact Nat.le_of_lt (trn_lt w hs (by omega))
theorem isSy_sq {g : Gm} {s : Nat} (h : isSy g s = true) : s.testBit 2 = true → qw g = qh g := by
  intro c
  simp only [isSy, Bool.and_eq_true, Bool.not_eq_true', c, Bool.true_and, decide_eq_false_iff_not, Decidable.not_not] at h
  exact h.1.2
section
variable {E : Wd} {h0 h : Hp} {M : Nat} {A : Nat → Nat → Int32} {f : Nat → Int32} {g : Gm} {d : Nat}
theorem k_verdict {Q : Int32 → Hp → Prop} {x : Nat} (R : Rf E h0 h M A f) (G : RG A f g) (hx : x < nx g) (hq : Q (vdt g x) h) : OkI E YX8_verdict d [.ref M, .int (nI x)] h Q := by
  obtain ⟨hg, w, v, hf, T, Tc⟩ := G
  have hnx := nx_le w
  refine rnX8_verdict ?_
  have L : ∀ s : Int32, (s = 0 → vdt g x = val g x) → (¬ s = 0 → vdt g x = 0) → vcX8_verdict_31 E d M (nI x) s h Q := fun s q0 q1 => by
    simp only [vcX8_verdict_31, R.fs, R.tb (show x < 4394 by omega), true_and, (T x hx).2.2.1]
    refine ⟨fun c => ?_, fun c => ?_⟩
    · have := q0 c; rw [this] at hq; exact hq
    · rw [q1 c] at hq; exact hq
  simp only [vcX8_verdict_0, vcX8_verdict_30, R.fs, R.gm hg, R.tb (show x < 4394 by omega), true_and, (Tc x hx).2]
  refine ⟨fun c => L 0 (fun _ => ?_) (fun c => absurd rfl c), fun c => ⟨fun c2 => L 0 (fun _ => ?_) (fun c => absurd rfl c), fun c2 => L 1 (fun c => absurd c (by decide)) (fun _ => ?_)⟩⟩
  · unfold vdt; rw [if_neg (fun q => q.1 c)]
  · unfold vdt; rw [if_neg (fun q => q.2 c2)]
  · unfold vdt; rw [if_pos ⟨c, c2⟩]
theorem k_hasPawns {Q : Int32 → Hp → Prop} (R : Rf E h0 h M A f) (hg : rA (A 2) g) (w : qF g) (hq : Q (bI (pawns g (qn g))) h) : OkI E YX8_hasPawns d [.ref M] h Q := by
  refine rnX8_hasPawns (fun K4 k4 => ?_)
  have hn : qn g ≤ 3 := w.2.2.2.2.2.2.1
  have loop := lp_up (K := fun m => K4 M (bI (pawns g m)) (nI m) h) (qn g) (fun m hm ih => by
    refine k4 _ _ _ _ ?_
    have hk : gA h (M + 2) (nI (7 + m)) = nI (qk g m) := by rw [R.gR 2 _ rfl, n_cl]; exact hg.2.2.2.2.2.2.2 m (by omega)
    have hok : okR E h (M + 2) 0 (nI (7 + m)) := R.oR 2 _ rfl rfl (vpn (n := 10) (by omega))
    have hk9 := w.2.2.2.2.2.2.2.2.2.2 m
    simp only [vcX8_hasPawns_4, R.fs, R.gm hg, true_and, nI_leI (show qn g < 2 ^ 31 by omega) (show m < 2 ^ 31 by omega), show (7 : Int32) + nI m = nI (7 + m) from nI_add 7 m, hk, hok, show (9 : Int32) = nI 9 from rfl, nI_eq (show qk g m < 2 ^ 31 by omega) (show 9 < 2 ^ 31 by omega)]
    rw [← nI_1, pawns_succ, ← bI_or] at ih
    refine ⟨fun c => absurd c (by omega), fun _ => ⟨fun c => ?_, fun c => ?_⟩⟩
    · rw [show (qk g m == 9) = false by simpa using c] at ih; exact ih
    · rw [c] at ih; exact ih) (by
    refine k4 _ _ _ _ ?_
    simp only [vcX8_hasPawns_4, R.fs, R.gm hg, true_and]
    exact ⟨fun _ => ⟨bI_m _, hq⟩, fun c => absurd (nI_le (Nat.le_refl _) (by omega)) c⟩) 0 (Nat.zero_le _)
  exact loop
theorem k_turned {Q : Int32 → Hp → Prop} {s p : Nat} (R : Rf E h0 h M A f) (hg : rA (A 2) g) (w : qF g) (hs : s < 8) (hp : p ≤ sq g) (hq : Q (nI (trn g s p)) h) : OkI E YX8_turned (d + 1) [.ref M, .int (nI s), .int (nI p)] h Q := by
  refine rnX8_turned ?_
  have hsq := w.sq_lt
  have hw := w.1
  have hw6 := w.2.1
  have hh6 := w.2.2.2.1
  refine ⟨⟨_, R.obj⟩, k_squares R hg ?_⟩
  simp only [R.fs, R.gm hg, true_and, nI_eq (show p < 2 ^ 31 by omega) (show sq g < 2 ^ 31 by omega)]
  refine ⟨fun c => ?_, fun c => ?_⟩
  · have hwz : ¬ nI (qw g) = 0 := nI_ne0 (by omega) (by omega)
    refine ⟨hwz, hwz, ?_⟩
    rw [pk_rem (show p < 2 ^ 31 by omega) (by omega) (by omega), pk_div (show p < 2 ^ 31 by omega) (by omega) (by omega)]
    have hX := trXY w s p (by omega)
    have L76 : vcX8_turned_76 E d M (nI s) (nI (trX g s p)) (nI (trY g s p)) h Q := by
      rw [vcX8_turned_76, n_lit2]
      refine k_has (by omega) (by omega) (bI_c (fun c2 => ?_) (fun c2 => ?_))
      · simp only [R.fs, R.gm hg, true_and, pk_mul, nI_add]
        rw [trn, if_neg c, c2, if_neg (by decide)] at hq; exact hq
      · simp only [R.fs, R.gm hg, true_and, pk_mul, nI_add]
        rw [trn, if_neg c, if_pos c2] at hq; exact hq
    have L51 : vcX8_turned_51 E d M (nI s) (nI (p / qw g)) (nI (trX g s p)) h Q := by
      rw [vcX8_turned_51, n_lit1]
      refine k_has (by omega) (by omega) (bI_c (fun c2 => ?_) (fun c2 => ?_))
      · rw [trY, c2, if_neg (by decide)] at L76; exact L76
      · rw [← n_lit1]
        simp only [R.fs, R.gm hg, true_and]
        have h2 : p / qw g < qh g := by rw [Nat.div_lt_iff_lt_mul (by omega), Nat.mul_comm]; unfold sq at hp c; omega
        rw [show nI (qh g) - 1 = nI (qh g - 1) from n_sub (show 1 ≤ qh g by omega), n_sub (by generalize p / qw g = z at h2 ⊢; omega)]
        rw [trY, if_pos c2] at L76; exact L76
    rw [n_lit0]
    refine k_has (by omega) (by omega) (bI_c (fun c2 => ?_) (fun c2 => ?_))
    · rw [trX, c2, if_neg (by decide)] at L51; exact L51
    · simp only [R.fs]
      have h1 : p % qw g < qw g := Nat.mod_lt _ (by omega)
      simp only [R.gm hg, true_and, ← n_lit0, n_lit1]
      rw [n_sub (show 1 ≤ qw g by omega), n_sub (by omega)]
      rw [trX, if_pos c2] at L51; exact L51
  · rw [trn, if_pos c] at hq; exact hq
theorem k_isSymmetry {Q : Int32 → Hp → Prop} {s : Nat} (R : Rf E h0 h M A f) (hg : rA (A 2) g) (w : qF g) (hs : s < 8) (hq : Q (bI (isSy g s)) h) : OkI E YX8_isSymmetry (d + 2) [.ref M, .int (nI s)] h Q := by
  refine rnX8_isSymmetry (fun K41 k41 => ?_)
  have hsq := w.sq_lt
  have ho := w.ho
  have hw6 := w.2.1
  have hh6 := w.2.2.2.1
  have loop : pawns g (qn g) = false ∨ s ≤ 1 → (s.testBit 2 = true → qw g = qh g) → K41 M (nI s) 1 0 h := fun q1 q2 => by
    have hi : isSy g s = isSyN g s (sq g) := by
      rw [isSy, show (pawns g (qn g) && decide (1 < s)) = false by rcases q1 with q | q <;> simp [q], show (s.testBit 2 && decide (qw g ≠ qh g)) = false by
        by_cases c : s.testBit 2 = true
        · simp [q2 c]
        · simp [show s.testBit 2 = false by simpa using c]]
      rfl
    refine lp_up (K := fun p => K41 M (nI s) (bI (isSyN g s p)) (nI p) h) (sq g) (fun p hp ih => ?_) ?_ 0 (Nat.zero_le _)
    · refine k41 _ _ _ _ _ ?_
      refine ⟨⟨_, R.obj⟩, k_squares R hg ?_⟩
      simp only [R.fs, R.gm hg, true_and, nI_leI (show sq g < 2 ^ 31 by omega) (show p < 2 ^ 31 by omega)]
      refine ⟨fun c => absurd c (by omega), fun _ => k_has ho (by omega) ?_⟩
      simp only [R.fs, R.gm hg, true_and]
      refine k_turned R hg w hs (by omega) (k_has ho (by have := trn_lt w q2 hp; omega) ?_)
      rw [← nI_1, isSyN_succ, ← bI_and] at ih
      refine ⟨fun c => ?_, fun c => ?_⟩
      · rw [show ((qo g).testBit p == (qo g).testBit (trn g s p)) = false by simpa using (fun e => c (by rw [e]))] at ih; exact ih
      · have c' : (qo g).testBit p = (qo g).testBit (trn g s p) := by
          revert c
          cases (qo g).testBit p <;> cases (qo g).testBit (trn g s p) <;> simp [bI]
        rw [c', beq_self_eq_true] at ih; exact ih
    · refine k41 _ _ _ _ _ ?_
      refine ⟨⟨_, R.obj⟩, k_squares R hg ?_⟩
      refine ⟨fun _ => ⟨bI_m _, by rw [← hi]; exact hq⟩, fun c => absurd (nI_le (Nat.le_refl _) (by omega)) c⟩
  have L12 : (pawns g (qn g) = false ∨ s ≤ 1) → vcX8_isSymmetry_12 E (d + 1) K41 M (nI s) h Q := fun q1 => by
    rw [vcX8_isSymmetry_12, n_lit2]
    refine k_has (by omega) (by omega) (bI_c (fun c2 => ?_) (fun c2 => ?_))
    · exact loop q1 (fun c => by rw [c2] at c; cases c)
    · simp only [R.fs, R.gm hg, true_and, nI_eq (show qw g < 2 ^ 31 by omega) (show qh g < 2 ^ 31 by omega)]
      refine ⟨fun c3 => loop q1 (fun _ => c3), fun c3 => ⟨Or.inl rfl, ?_⟩⟩
      rw [isSy, c2, decide_eq_true c3, Bool.and_self, Bool.not_true, Bool.and_false, Bool.false_and] at hq
      exact hq
  refine ⟨⟨_, R.obj⟩, k_hasPawns R hg w (bI_c (fun c => L12 (Or.inl c)) (fun c => ?_))⟩
  simp only [n_lit1, nI_ltI (show 1 < 2 ^ 31 by omega) (show s < 2 ^ 31 by omega)]
  refine ⟨fun c2 => ⟨Or.inl rfl, ?_⟩, fun c2 => L12 (Or.inr (by omega))⟩
  rw [isSy, c, decide_eq_true c2] at hq
  exact hq
theorem k_countSymmetries {Q : Int32 → Hp → Prop} (R : Rf E h0 h M A f) (hg : rA (A 2) g) (w : qF g) (hq : Q (nI (cN (isSy g) 8)) h) : OkI E YX8_countSymmetries (d + 3) [.ref M] h Q := by
  refine rnX8_countSymmetries (fun K4 k4 => ?_)
  refine lp_up (K := fun s => K4 M (nI (cN (isSy g) s)) (nI s) h) 8 (fun s hs ih => ?_) ?_ 0 (Nat.zero_le _)
  · refine k4 _ _ _ _ ?_
    simp only [vcX8_countSymmetries_4, show (8 : Int32) = nI 8 from rfl, nI_leI (show 8 < 2 ^ 31 by omega) (show s < 2 ^ 31 by omega)]
    refine ⟨fun c => absurd c (by omega), fun _ => ⟨⟨_, R.obj⟩, k_isSymmetry R hg w hs (bI_c (fun c => ?_) (fun c => ?_))⟩⟩
    · rw [← nI_1, cN, if_neg (by rw [c]; decide)] at ih
      rw [n_lit0, nI_add]; exact ih
    · rw [← nI_1, cN, if_pos c] at ih
      rw [n_lit1, nI_add]; exact ih
  · refine k4 _ _ _ _ ?_
    exact ⟨fun _ => hq, fun c => absurd (nI_le (a := 8) (b := 8) (Nat.le_refl _) (by omega)) c⟩
theorem imI_lt {g : Gm} (w : qF g) {x s : Nat} (hx : x < nx g) (hs : s.testBit 2 = true → qw g = qh g) : imI g x s < nx g :=
  (plc_ixo (by omega) (fun m _ => trn_le w hs (plc_le hx m))).2.1
theorem k_imageOf {Q : Int32 → Hp → Prop} {x s : Nat} (R : Rf E h0 h M A f) (hg : rA (A 2) g) (w : qF g) (hx : x < nx g) (hs : s < 8)
    (hq : ∀ h' A', Rf E h0 h' M A' f → FI A A' → Q (nI (imI g x s)) h') : OkI E YX8_imageOf (d + 2) [.ref M, .int (nI x), .int (nI s)] h Q := by
  refine rnX8_imageOf (fun K11 k11 => ?_)
  have hsq := w.sq_lt
  have hnx := nx_le w
  simp only [vcX8_imageOf_0, R.fs, true_and]
  refine k_decode (j := 47) R hg w (Or.inr (Or.inl rfl)) (by omega) (fun h1 A1 R1 P1 E1 => ?_)
  have hg1 : rA (A1 2) g := by
    rw [show A1 2 = A 2 from funext fun i => E1 2 i (by omega)]; exact hg
  refine lp_up (K := fun m => ∀ h2 A2, Rf E h0 h2 M A2 f → (∀ j i, j ≠ 48 → A2 j i = A1 j i) → (∀ m', m' < m → A2 48 m' = nI (trn g s (plc g x m'))) → K11 M (nI x) (nI s) (nI m) h2) 3 (fun m hm ih h2 A2 R2 E2 P2 => ?_) (fun h2 A2 R2 E2 P2 => ?_) 0 (Nat.zero_le _) h1 A1 R1 (fun _ _ _ => rfl) (fun m hm => absurd hm (Nat.not_lt_zero _))
  · refine k11 _ _ _ _ _ ?_
    have hg2 : rA (A2 2) g := by
      rw [show A2 2 = A1 2 from funext fun i => E2 2 i (by omega)]; exact hg1
    have hp2 : ∀ m, m < 3 → A2 47 m = nI (plc g x m) := fun m hm => by rw [E2 47 m (by omega)]; exact P1 m hm
    have pm := R2.plm (j := 47) (Or.inr (Or.inl rfl)) hp2 hm
    simp only [vcX8_imageOf_11, R2.fs, true_and, show (3 : Int32) = nI 3 from rfl, nI_leI (show 3 < 2 ^ 31 by omega) (show m < 2 ^ 31 by omega), pm]
    refine ⟨fun c => absurd c (by omega), fun _ => k_turned R2 hg2 w hs (plc_le hx m) ?_⟩
    refine ⟨R2.oR 48 _ rfl rfl (vpn (n := 3) hm), fun h5 e5 => ?_⟩
    subst e5
    have R5 := R2.st (j := 48) (nI m) (nI (trn g s (plc g x m))) rfl
    rw [n_cl (n := m)] at R5
    rw [nI_1]
    refine ih _ _ R5 (fun j i o => ?_) (fun m' hm' => ?_)
    · simp only [up2, o, false_and, if_false]; exact E2 j i o
    · by_cases c : m' = m
      · subst c; simp [up2]
      · simp only [up2, c, and_false, if_false]; exact P2 m' (by omega)
  · refine k11 _ _ _ _ _ ?_
    have hg2 : rA (A2 2) g := by
      rw [show A2 2 = A1 2 from funext fun i => E2 2 i (by omega)]; exact hg1
    simp only [vcX8_imageOf_11, R2.fs, true_and]
    refine ⟨fun _ => ⟨by decide, ?_⟩, fun c => absurd (nI_le (a := 3) (b := 3) (Nat.le_refl _) (by omega)) c⟩
    rw [n_lit2, pk_rem (show x < 2 ^ 31 by omega) (by omega) (by omega)]
    refine k_indexOf (j := 48) R2 hg2 (Or.inr (Or.inr rfl)) P2 ?_
    exact hq h2 A2 R2 (fun j i o1 o2 => by rw [E2 j i o2, E1 j i o1])
theorem canN_lt {g : Gm} (w : qF g) {x : Nat} (hx : x < nx g) : ∀ n, canN g x n < nx g
  | 0 => hx
  | n + 1 => by
    have h1 := canN_lt w hx n
    rw [canN]
    exact Nat.lt_of_le_of_lt (Nat.min_le_right _ _) h1
theorem FI.g2 {A A' : Nat → Nat → Int32} {g : Gm} (F : FI A A') (hg : rA (A 2) g) : rA (A' 2) g := by
  rw [show A' 2 = A 2 from funext fun i => F 2 i (by omega) (by omega)]; exact hg
theorem k_canonical {Q : Int32 → Hp → Prop} {x : Nat} (R : Rf E h0 h M A f) (hg : rA (A 2) g) (w : qF g) (hx : x < nx g)
    (hq : ∀ h' A', Rf E h0 h' M A' f → FI A A' → Q (nI (can g x)) h') : OkI E YX8_canonical (d + 3) [.ref M, .int (nI x)] h Q := by
  refine rnX8_canonical (fun K4 k4 => ?_)
  have hnx := nx_le w
  refine lp_up (K := fun s => ∀ h1 A1, Rf E h0 h1 M A1 f → FI A A1 → K4 M (nI x) (nI (canN g x s)) (nI s) h1) 8 (fun s hs ih h1 A1 R1 F1 => ?_) (fun h1 A1 R1 F1 => ?_) 0 (Nat.zero_le _) h A R (FI.rfl A)
  · refine k4 _ _ _ _ _ ?_
    have hc := canN_lt w hx s
    simp only [vcX8_canonical_4, show (8 : Int32) = nI 8 from rfl, nI_leI (show 8 < 2 ^ 31 by omega) (show s < 2 ^ 31 by omega)]
    have L28 : ∀ y, y < nx g → y = (if isSy g s = true then imI g x s else x) → ∀ h2 A2, Rf E h0 h2 M A2 f → FI A A2 → vcX8_canonical_28 E (d + 2) K4 M (nI x) (nI (canN g x s)) (nI s) (nI y) h2 Q := fun y hy ey h2 A2 R2 F2 => by
      have := ih h2 A2 R2 F2
      rw [← nI_1, canN, ← ey] at this
      simp only [vcX8_canonical_28, nI_leI (show canN g x s < 2 ^ 31 by omega) (show y < 2 ^ 31 by omega)]
      refine ⟨fun c => ?_, fun c => ?_⟩
      · rw [Nat.min_eq_right c] at this; exact this
      · rw [Nat.min_eq_left (by omega)] at this; exact this
    refine ⟨fun c => absurd c (by omega), fun _ => ⟨⟨_, R1.obj⟩, k_isSymmetry R1 (F1.g2 hg) w hs (bI_c (fun c => ?_) (fun c => ?_))⟩⟩
    · exact L28 x hx (by rw [c]; rfl) h1 A1 R1 F1
    · refine ⟨⟨_, R1.obj⟩, k_imageOf R1 (F1.g2 hg) w hx hs (fun h2 A2 R2 F2 => ?_)⟩
      exact L28 _ (imI_lt w hx (isSy_sq c)) (by rw [if_pos c]) h2 A2 R2 (F1.tr F2)
  · refine k4 _ _ _ _ _ ?_
    exact ⟨fun _ => hq h1 A1 R1 F1, fun c => absurd (nI_le (a := 8) (b := 8) (Nat.le_refl _) (by omega)) c⟩
def newB (g : Gm) (x s : Nat) (n : Nat) : Bool := isSy g s && (List.range n).all (fun b => !isSy g b || imI g x b != imI g x s)
theorem newB_succ (g : Gm) (x s n : Nat) : newB g x s (n + 1) = (newB g x s n && (!isSy g n || imI g x n != imI g x s)) := by
  unfold newB
  rw [List.range_succ, List.all_append, Bool.and_assoc]
  simp
def newI (g : Gm) (x s : Nat) : Bool := newB g x s s
theorem newB_stop {g : Gm} {x s b : Nat} (h : newB g x s b = false) : ∀ n, b ≤ n → newB g x s n = false
  | 0, hn => by rw [show 0 = b by omega]; exact h
  | n + 1, hn => by
    by_cases c : b = n + 1
    · rw [← c]; exact h
    · rw [newB_succ, newB_stop h n (by omega), Bool.false_and]
theorem k_countImages {Q : Int32 → Hp → Prop} {x : Nat} (R : Rf E h0 h M A f) (hg : rA (A 2) g) (w : qF g) (hx : x < nx g)
    (hq : ∀ h' A', Rf E h0 h' M A' f → FI A A' → Q (nI (cN (newI g x) 8)) h') : OkI E YX8_countImages (d + 3) [.ref M, .int (nI x)] h Q := by
  refine rnX8_countImages (fun K4 K20 k4 k20 => ?_)
  have hnx := nx_le w
  refine lp_up (K := fun s => ∀ h1 A1, Rf E h0 h1 M A1 f → FI A A1 → K4 M (nI x) (nI (cN (newI g x) s)) (nI s) h1) 8 (fun s hs ih h1 A1 R1 F1 => ?_) (fun h1 A1 R1 F1 => ?_) 0 (Nat.zero_le _) h A R (FI.rfl A)
  · refine k4 _ _ _ _ _ ?_
    simp only [vcX8_countImages_4, show (8 : Int32) = nI 8 from rfl, nI_leI (show 8 < 2 ^ 31 by omega) (show s < 2 ^ 31 by omega)]
    refine ⟨fun c => absurd c (by omega), fun _ => ⟨⟨_, R1.obj⟩, k_isSymmetry R1 (F1.g2 hg) w hs ?_⟩⟩
    have L69 : ∀ h2 A2 b, Rf E h0 h2 M A2 f → FI A A2 → b = newI g x s → vcX8_countImages_69 E (d + 2) K4 K20 M (nI x) (nI (cN (newI g x) s)) (nI s) (bI b) h2 Q := fun h2 A2 b R2 F2 eb => by
      have := ih h2 A2 R2 F2
      rw [← nI_1, cN, ← eb] at this
      refine bI_c (fun c => ?_) (fun c => ?_)
      · rw [c, if_neg (by decide)] at this; rw [n_lit0, nI_add]; exact this
      · rw [c, if_pos rfl] at this; rw [n_lit1, nI_add]; exact this
    have inner := lp_up (K := fun b => ∀ h2 A2, Rf E h0 h2 M A2 f → FI A A2 → K20 M (nI x) (nI (cN (newI g x) s)) (nI s) (bI (newB g x s b)) (nI b) h2) s (fun b hb ihb h2 A2 R2 F2 => by
      refine k20 _ _ _ _ _ _ _ ?_
      simp only [vcX8_countImages_20, nI_leI (show s < 2 ^ 31 by omega) (show b < 2 ^ 31 by omega)]
      refine ⟨fun c => absurd c (by omega), fun _ => bI_c (fun c => L69 h2 A2 _ R2 F2 ?_) (fun c => ?_)⟩
      · rw [c]; exact (newB_stop c s (by omega)).symm
      · have c1 : isSy g s = true := by unfold newB at c; simp only [Bool.and_eq_true] at c; exact c.1
        have go : ∀ h3 A3, Rf E h0 h3 M A3 f → FI A A3 → newB g x s (b + 1) = true → vcX8_countImages_56 E (d + 2) K4 K20 M (nI x) (nI (cN (newI g x) s)) (nI s) (nI b) h3 Q := fun h3 A3 R3 F3 e => by
          have := ihb h3 A3 R3 F3
          rw [e, ← nI_1] at this
          exact this
        refine ⟨⟨_, R2.obj⟩, k_isSymmetry R2 (F2.g2 hg) w (by omega) (bI_c (fun c2 => ?_) (fun c2 => ?_))⟩
        · exact go h2 A2 R2 F2 (by rw [newB_succ, c, c2]; rfl)
        · refine ⟨⟨_, R2.obj⟩, k_imageOf R2 (F2.g2 hg) w hx (by omega) (fun h3 A3 R3 F3 => ?_)⟩
          have F3' := F2.tr F3
          refine ⟨⟨_, R3.obj⟩, k_imageOf R3 (F3'.g2 hg) w hx hs (fun h4 A4 R4 F4 => ?_)⟩
          have F4' := F3'.tr F4
          have i1 := imI_lt w hx (isSy_sq c1)
          have i2 := imI_lt w hx (isSy_sq c2)
          rw [nI_eq (show imI g x b < 2 ^ 31 by omega) (show imI g x s < 2 ^ 31 by omega)]
          refine ⟨fun c3 => ?_, fun c3 => ?_⟩
          · have := ihb h4 A4 R4 F4'
            rw [newB_succ, c, c2, c3, bne_self_eq_false, ← nI_1] at this
            exact this
          · exact go h4 A4 R4 F4' (by rw [newB_succ, c, c2]; simpa using c3)) (fun h2 A2 R2 F2 => by
      refine k20 _ _ _ _ _ _ _ ?_
      exact ⟨fun _ => L69 h2 A2 _ R2 F2 rfl, fun c => absurd (nI_le (Nat.le_refl _) (by omega)) c⟩) 0 (Nat.zero_le _) h1 A1 R1 F1
    rw [show newB g x s 0 = isSy g s by simp [newB]] at inner
    exact inner
  · refine k4 _ _ _ _ _ ?_
    exact ⟨fun _ => hq h1 A1 R1 F1, fun c => absurd (nI_le (a := 8) (b := 8) (Nat.le_refl _) (by omega)) c⟩
theorem k_countPossible {Q : Int32 → Hp → Prop} (R : Rf E h0 h M A f) (G : RG A f g) (hq : Q (nI (cN (Ps g) (nx g))) h) : OkI E YX8_countPossible d [.ref M] h Q := by
  refine rnX8_countPossible (fun K4 k4 => ?_)
  obtain ⟨hg, w, v, hf, T, Tc⟩ := G
  have hnx := nx_le w
  refine lp_up (K := fun s => K4 M (nI (cN (Ps g) s)) (nI s) h) (nx g) (fun s hs ih => ?_) ?_ 0 (Nat.zero_le _)
  · refine k4 _ _ _ _ ?_
    simp only [vcX8_countPossible_4, R.fs, true_and, hf, nI_leI (show nx g < 2 ^ 31 by omega) (show s < 2 ^ 31 by omega), R.tb (show s < 4394 by omega), (T s hs).1]
    refine ⟨fun c => absurd c (by omega), fun _ => bI_c (fun c => ?_) (fun c => ?_)⟩
    · rw [← nI_1, cN, if_neg (by rw [c]; decide)] at ih
      rw [n_lit0, nI_add]; exact ih
    · rw [← nI_1, cN, if_pos c] at ih
      rw [n_lit1, nI_add]; exact ih
  · refine k4 _ _ _ _ ?_
    simp only [vcX8_countPossible_4, R.fs, true_and, hf]
    exact ⟨fun _ => hq, fun c => absurd (nI_le (Nat.le_refl _) (by omega)) c⟩
end
