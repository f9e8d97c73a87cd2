def btq (a : Nat) : Nat := if a < 12 then 2 ^ a else 0
def on1 (a : Nat) : Nat := if a < 12 then 1 else 0
theorem pop_dec : ∀ a, a < 13 → ∀ b, b < 13 → ∀ c, c < 13 → ((pop (btq a ||| btq b ||| btq c) == on1 a + on1 b + on1 c) == ((a == 12 || b == 12 || a != b) && (a == 12 || c == 12 || a != c) && (b == 12 || c == 12 || b != c))) = true := by decide +kernel
def qsq (g : Gm) (P : Nat → Nat) (m : Nat) : Nat := if P m < sq g then P m else 12
theorem ocF_btq {g : Gm} (w : qF g) (P : Nat → Nat) : ocF g P 3 = btq (qsq g P 0) ||| btq (qsq g P 1) ||| btq (qsq g P 2) ∧ cN (fun m => decide (P m < sq g)) 3 = on1 (qsq g P 0) + on1 (qsq g P 1) + on1 (qsq g P 2) := by
  have hsq := w.sq_lt
  have e1 : ∀ m, (if P m < sq g then 2 ^ P m else 0) = btq (qsq g P m) := fun m => by
    unfold btq qsq
    by_cases c : P m < sq g
    · rw [if_pos c, if_pos c, if_pos (by omega)]
    · rw [if_neg c, if_neg c]; rfl
  have e2 : ∀ m, (if decide (P m < sq g) = true then 1 else 0) = on1 (qsq g P m) := fun m => by
    unfold on1 qsq
    by_cases c : P m < sq g
    · rw [decide_eq_true c, if_pos (Eq.refl true), if_pos c, if_pos (show P m < 12 by omega)]
    · rw [decide_eq_false c, if_neg c]; rfl
  refine ⟨?_, ?_⟩
  · rw [ocF, ocF, ocF, ocF, e1, e1, e1, Nat.zero_or]
  · rw [cN, cN, cN, cN, e2, e2, e2, Nat.zero_add]
theorem ocF_hole {g : Gm} {P : Nat → Nat} : ∀ n, (ocF g P n &&& qo g == 0) = true ↔ ∀ m, m < n → P m < sq g → (qo g).testBit (P m) = false
  | 0 => ⟨fun _ m h => absurd h (Nat.not_lt_zero _), fun _ => by rw [ocF, Nat.zero_and]; rfl⟩
  | n + 1 => by
    rw [ocF]
    by_cases c : P n < sq g
    · rw [if_pos c, way_bit, Bool.and_eq_true, ocF_hole n, Bool.not_eq_true']
      constructor
      · rintro ⟨h1, h2⟩ m hm hP
        by_cases e : m = n
        · rw [e]; exact h2
        · exact h1 m (by omega) hP
      · intro q
        exact ⟨fun m hm hP => q m (by omega) hP, q n (by omega) c⟩
    · rw [if_neg c, Nat.or_zero, ocF_hole n]
      constructor
      · intro q m hm hP
        by_cases e : m = n
        · rw [e] at hP; exact absurd hP c
        · exact q m (by omega) hP
      · intro q m hm hP
        exact q m (by omega) hP
theorem posC_cls {g : Gm} (w : qF g) {P : Nat → Nat} (hP : ∀ m, m < 3 → P m ≤ sq g) : posC g P ↔ (∀ m, m < 3 → P m < sq g → m < qn g) ∧ P 0 < sq g ∧ P (qb g) < sq g ∧ pop (ocF g P 3) = cN (fun m => decide (P m < sq g)) 3 ∧ ocF g P 3 &&& qo g = 0 := by
  have hn : qn g ≤ 3 := w.2.2.2.2.2.2.1
  have hsq := w.sq_lt
  obtain ⟨b1, b2⟩ := ocF_btq w P
  have q13 : ∀ m, qsq g P m < 13 := fun m => by unfold qsq; split <;> omega
  have hd := beq_iff_eq.mp (pop_dec _ (q13 0) _ (q13 1) _ (q13 2))
  rw [← b1, ← b2] at hd
  have qe : ∀ m, (qsq g P m = 12 ↔ ¬ P m < sq g) ∧ (P m < sq g → qsq g P m = P m) := fun m => by
    unfold qsq
    by_cases c : P m < sq g
    · rw [if_pos c]; exact ⟨by omega, fun _ => rfl⟩
    · rw [if_neg c]; exact ⟨by simp [c], fun q => absurd q c⟩
  have hdist : pop (ocF g P 3) = cN (fun m => decide (P m < sq g)) 3 ↔ ∀ m m', m < 3 → m' < 3 → m ≠ m' → P m < sq g → P m' < sq g → P m ≠ P m' := by
    rw [← beq_iff_eq (a := pop (ocF g P 3)), hd]
    simp only [Bool.and_eq_true, Bool.or_eq_true, beq_iff_eq, bne_iff_ne]
    have one : ∀ m m', ((qsq g P m = 12 ∨ qsq g P m' = 12) ∨ qsq g P m ≠ qsq g P m') ↔ (P m < sq g → P m' < sq g → P m ≠ P m') := fun m m' => by
      rw [(qe m).1, (qe m').1]
      constructor
      · rintro ((q | q) | q) h1 h2
        · exact absurd h1 q
        · exact absurd h2 q
        · rw [(qe m).2 h1, (qe m').2 h2] at q; exact q
      · intro q
        by_cases c1 : P m < sq g
        · by_cases c2 : P m' < sq g
          · right; rw [(qe m).2 c1, (qe m').2 c2]; exact q c1 c2
          · exact Or.inl (Or.inr c2)
        · exact Or.inl (Or.inl c1)
    rw [one, one, one]
    constructor
    · rintro ⟨⟨h1, h2⟩, h3⟩ m m' hm hm' hne c1 c2
      have e1 : m = 0 ∨ m = 1 ∨ m = 2 := by omega
      have e2 : m' = 0 ∨ m' = 1 ∨ m' = 2 := by omega
      rcases e1 with rfl | rfl | rfl <;> rcases e2 with rfl | rfl | rfl
      · exact absurd rfl hne
      · exact h1 c1 c2
      · exact h2 c1 c2
      · exact (h1 c2 c1).symm
      · exact absurd rfl hne
      · exact h3 c1 c2
      · exact (h2 c2 c1).symm
      · exact (h3 c2 c1).symm
      · exact absurd rfl hne
    · intro q
      exact ⟨⟨q 0 1 (by omega) (by omega) (by omega), q 0 2 (by omega) (by omega) (by omega)⟩, q 1 2 (by omega) (by omega) (by omega)⟩
  have hhole : ocF g P 3 &&& qo g = 0 ↔ ∀ m, m < 3 → P m < sq g → (qo g).testBit (P m) = false := by
    rw [← beq_iff_eq, ocF_hole]
  rw [hdist, hhole]
  constructor
  · rintro ⟨C1, C2, C3, C4⟩
    have man : ∀ m, m < 3 → P m < sq g → m < qn g := fun m hm hp => Decidable.byContradiction (fun q => by rw [C4 m hm q] at hp; omega)
    exact ⟨man, C1 0 (by omega), C1 1 (by omega), fun m m' hm hm' hne c1 c2 => C3 m m' (man m hm c1) (man m' hm' c2) hne c1, fun m hm hp => C2 m (man m hm hp) hp⟩
  · rintro ⟨man, p0, p1, di, ho⟩
    refine ⟨fun s hs => ?_, fun m hm hp => ho m (by omega) hp, fun m m' hm hm' hne hp => ?_, fun m hm hq => ?_⟩
    · have : s = 0 ∨ s = 1 := by omega
      rcases this with rfl | rfl
      · exact p0
      · exact p1
    · by_cases c2 : P m' < sq g
      · exact di m m' (by omega) (by omega) hne hp c2
      · intro e; rw [e] at hp; exact c2 hp
    · have := hP m hm
      by_cases c : P m < sq g
      · exact absurd (man m hm c) hq
      · omega
section
variable {E : Wd} {h : Hp} {p r c s o : Nat} {g : Gm} {d : Nat} {P : Nat → Nat}
theorem c_isPossible {Q : Int32 → Hp → Prop} (K : Kp E h p r c g P s (ocF g P 3)) (w : qF g) (hs : s < 2) (hq : Q (bI (poss g P s)) h) : OkI E YX1_isPossible (d + 2) [.ref p] h Q := by
  refine rnX1_isPossible (fun K4 k4 => ?_)
  have hn : qn g ≤ 3 := w.2.2.2.2.2.2.1
  have hb := w.2.2.2.2.2.2.2.2.1
  have hsq := w.sq_lt
  have hP := K.2.2.2.2.1
  have ho4 := ocF_lt w P 3
  have hC := posC_cls w hP
  have hposs : poss g P s = (posN g P 3 && !chk g P (1 - s)) := rfl
  have hN := posN_iff w P
  have no : ¬ posC g P → Q 0 h := fun q => by
    rw [hposs, show posN g P 3 = false from Bool.eq_false_iff.mpr (fun z => q (hN.mp z))] at hq; exact hq
  refine lp_up (K := fun m => (∀ i, i < m → P i < sq g → i < qn g) → K4 p (nI (cN (fun m => decide (P m < sq g)) m)) (nI m) h) 3 (fun m hm ih hman => ?_) (fun hman => ?_) 0 (Nat.zero_le _) (fun i hi => absurd hi (Nat.not_lt_zero _))
  · refine k4 _ _ _ _ ?_
    simp only [vcX1_isPossible_4, K.fs, true_and, nI_leI (show 3 < 2 ^ 31 by omega) (show m < 2 ^ 31 by omega)]
    refine ⟨fun q => absurd q (by omega), fun _ => c_isOnBoard K w hm ?_⟩
    rw [← nI_1, cN] at ih
    refine bI_c' (fun q => ?_) (fun q => ?_)
    · have q : ¬ P m < sq g := by simpa using q
      rw [decide_eq_false q] at ih
      exact ih (fun i hi hp => by
        by_cases e : i = m
        · rw [e] at hp; exact absurd hp q
        · exact hman i (by omega) hp)
    · have q : P m < sq g := by simpa using q
      rw [decide_eq_true q, if_pos rfl] at ih
      simp only [K.fs, true_and]
      refine ⟨⟨_, K.1.1⟩, c_isMan K.1 ?_⟩
      rw [isM_nat w (by omega)]
      refine bI_c' (fun q2 => ⟨Or.inl rfl, no (fun z => ?_)⟩) (fun q2 => ?_)
      · have := (hC.mp z).1 m hm q
        simp [this] at q2
      · rw [n_lit1, nI_add]
        exact ih (fun i hi hp => by
          by_cases e : i = m
          · rw [e]; simpa using q2
          · exact hman i (by omega) hp)
  · refine k4 _ _ _ _ ?_
    simp only [vcX1_isPossible_4, K.fs, true_and]
    refine ⟨fun _ => c_isOnBoard (m := 0) K w (by omega) ?_, fun q => absurd (nI_le (a := 3) (b := 3) (Nat.le_refl _) (by omega)) q⟩
    refine bI_c (fun q => ⟨Or.inl rfl, no (fun z => ?_)⟩) (fun q => ?_)
    · have := (hC.mp z).2.1
      simp [this] at q
    · have p0 : P 0 < sq g := by simpa using q
      simp only [K.fs, true_and, K.1.fs]
      refine c_isOnBoard K w (show qb g < 3 by omega) (bI_c' (fun q => ⟨Or.inl rfl, no (fun z => ?_)⟩) (fun q => ?_))
      · have := (hC.mp z).2.2.1
        simp [this] at q
      · have p1 : P (qb g) < sq g := by simpa using q
        simp only [K.fs, true_and]
        refine c_bitCount ho4 ?_
        have c12 := cN_le (fun i => (ocF g P 3).testBit i) 12
        have c3 := cN_le (fun m => decide (P m < sq g)) 3
        rw [nI_eq (show pop (ocF g P 3) < 2 ^ 31 by unfold pop; omega) (by omega)]
        refine ⟨fun q => ⟨Or.inl rfl, no (fun z => q (hC.mp z).2.2.2.1)⟩, fun q => ?_⟩
        simp only [K.fs, true_and, K.1.fs]
        rw [nx_and, show (0 : Int32) = nI 0 from rfl, nI_eq (Nat.lt_of_le_of_lt Nat.and_le_left (by omega)) (by omega)]
        refine ⟨fun q2 => ?_, fun q2 => ⟨Or.inl rfl, no (fun z => q2 (hC.mp z).2.2.2.2)⟩⟩
        have hpos : posC g P := hC.mpr ⟨hman, p0, p1, q, q2⟩
        rw [show (1 : Int32) - nI s = nI (1 - s) from n_sub (show s ≤ 1 by omega)]
        have hoc : ocF g P 3 = ocF g P (qn g) := ocF_qn w (fun m hm hq' => hpos.2.2.2 m hm hq')
        refine c_isAttacked K w (by omega) hpos hoc ?_
        rw [hposs, hN.mpr hpos, Bool.true_and] at hq
        refine bI_c' (fun q3 => ⟨Or.inr rfl, ?_⟩) (fun q3 => ⟨Or.inl rfl, ?_⟩)
        · rw [q3] at hq; exact hq
        · rw [q3] at hq; exact hq
end
