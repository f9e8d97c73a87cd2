def ocF (g : Gm) (P : Nat → Nat) : Nat → Nat
  | 0 => 0
  | m + 1 => ocF g P m ||| (if P m < sq g then 2 ^ P m else 0)
def ms (g : Gm) (P : Nat → Nat) : Nat := cN (fun m => decide (sq g ≤ P m)) (qn g)
def kpf (p r c s o : Nat) : List Value := [.ref r, .ref c, .ref (p + 1), .int (nI s), .int (nI o)]
/-- a Position at p, its rules at r, its reach at c: men on P, side s, the squares o -/
def Kp (E : Wd) (h : Hp) (p r c : Nat) (g : Gm) (P : Nat → Nat) (s o : Nat) : Prop := Kr E h r g ∧ Kc E h c g ∧ h.2 p = some (.inr (1, kpf p r c s o)) ∧ (∃ F, h.2 (p + 1) = some (.inl (eA E 0, 3, .inl F)) ∧ ∀ m, m < 3 → F m = nI (P m)) ∧ (∀ m, m < 3 → P m ≤ sq g) ∧ (r + 3 ≤ p ∧ p + 2 ≤ c) 
theorem ocF_lt {g : Gm} (w : qF g) (P : Nat → Nat) : ∀ n, ocF g P n < 4096
  | 0 => by show 0 < 4096; omega
  | n + 1 => by
    have ih := ocF_lt w P n
    have hsq := w.sq_lt
    rw [ocF]
    refine Nat.or_lt_two_pow (n := 12) ih ?_
    split
    · exact Nat.pow_lt_pow_right (by omega) (by omega)
    · omega
theorem ocF_congr {g : Gm} {P P' : Nat → Nat} : ∀ n, (∀ m, m < n → P m = P' m) → ocF g P n = ocF g P' n
  | 0, _ => rfl
  | n + 1, h => by rw [ocF, ocF, ocF_congr n (fun m hm => h m (by omega)), h n (by omega)]
section
variable {E : Wd} {h : Hp} {p r c s o : Nat} {g : Gm} {d : Nat} {P : Nat → Nat}
theorem Kp.fs (K : Kp E h p r c g P s o) : isO h p 1 ∧ okA h p 1 0 ∧ vA (hF h p 0) = r ∧ okA h p 1 1 ∧ vA (hF h p 1) = c ∧ okA h p 1 2 ∧ vA (hF h p 2) = p + 1 ∧ okI h p 1 3 ∧ vI (hF h p 3) = nI s ∧ okI h p 1 4 ∧ vI (hF h p 4) = nI o ∧ okP h p 1 3 ∧ okP h p 1 4 ∧ okL E h (p + 1) 0 ∧ lA h (p + 1) = nI 3 := by
  obtain ⟨-, -, e, ⟨F, e1, -⟩, -⟩ := K
  exact ⟨⟨_, e⟩, ⟨_, _, e, rfl⟩, (by rw [hF_of e rfl]; rfl), ⟨_, _, e, rfl⟩, (by rw [hF_of e rfl]; rfl), ⟨_, _, e, rfl⟩, (by rw [hF_of e rfl]; rfl), ⟨_, _, e, rfl⟩, (by rw [hF_of e rfl]; rfl), ⟨_, _, e, rfl⟩, (by rw [hF_of e rfl]; rfl), ⟨_, e, Nat.le_of_ble_eq_true rfl⟩, ⟨_, e, Nat.le_of_ble_eq_true rfl⟩, ⟨_, e1⟩, by simp [lA, e1, nI]⟩
theorem Kp.pl (K : Kp E h p r c g P s o) {m : Nat} (hm : m < 3) : okR E h (p + 1) 0 (nI m) ∧ gA h (p + 1) (nI m) = nI (P m) := by
  obtain ⟨-, -, -, ⟨F, e1, e2⟩, -⟩ := K
  exact ⟨⟨_, _, e1, vpn hm⟩, by rw [gA_of e1, n_cl]; exact e2 m hm⟩
theorem Kp.pf (K : Kp E h p r c g P s o) (s' o' : Nat) (j : Nat) (x : Int32) (hj : (kpf p r c s o).set j (.int x) = kpf p r c s' o') : Kp E (pF h p j (.int x)) p r c g P s' o' ∧ Fr2 h (pF h p j (.int x)) p := by
  obtain ⟨k1, k2, k3, ⟨F, k4, k5⟩, k6, k7⟩ := K
  have fr : Fr2 h (pF h p j (.int x)) p := ⟨rfl, fun a o1 _ => by simp [pF, o1]⟩
  refine ⟨⟨k1.of (fun i hi => fr.2 _ (by omega) (by omega)), k2.of (fun i hi => fr.2 _ (by omega) (by omega)), ?_, ⟨F, ?_, k5⟩, k6, k7⟩, fr⟩
  · simp [pF, k3, hj]
  · have : p + 1 ≠ p := by omega
    simp only [pF, this, if_false]; exact k4
theorem Kp.st (K : Kp E h p r c g P s o) {m t : Nat} (hm : m < 3) (ht : t ≤ sq g) : Kp E (sA h (p + 1) (nI m) (nI t)) p r c g (uP P m t) s o ∧ Fr2 h (sA h (p + 1) (nI m) (nI t)) p := by
  obtain ⟨k1, k2, k3, ⟨F, k4, k5⟩, k6, k7⟩ := K
  have fr : Fr2 h (sA h (p + 1) (nI m) (nI t)) p := ⟨rfl, fun a _ o2 => by simp [sA, o2]⟩
  refine ⟨⟨k1.of (fun i hi => fr.2 _ (by omega) (by omega)), k2.of (fun i hi => fr.2 _ (by omega) (by omega)), ?_, ⟨upd F m (nI t), ?_, fun i hi => ?_⟩, fun i hi => ?_, k7⟩, fr⟩
  · have : p ≠ p + 1 := by omega
    simp only [sA, this, if_false]; exact k3
  · have := sA_of (i := nI m) (x := nI t) k4
    rw [n_cl] at this; exact this
  · unfold uP upd
    by_cases c : i = m
    · rw [if_pos c, if_pos c]
    · rw [if_neg c, if_neg c]; exact k5 i hi
  · unfold uP
    by_cases c : i = m
    · rw [if_pos c]; exact ht
    · rw [if_neg c]; exact k6 i hi
theorem c_placeOf {Q : Int32 → Hp → Prop} {m : Nat} (K : Kp E h p r c g P s o) (hm : m < 3) (hq : Q (nI (P m)) h) : OkI E YX1_placeOf d [.ref p, .int (nI m)] h Q := by
  refine rnX1_placeOf ?_
  simp only [vcX1_placeOf_0, K.fs, true_and, K.pl hm, nI_leI (show 3 < 2 ^ 31 by omega) (show m < 2 ^ 31 by omega)]
  exact ⟨fun q => absurd q (nI_pos (by omega)), fun _ => ⟨fun q => absurd q (by omega), fun _ => hq⟩⟩
theorem c_isOnBoard {Q : Int32 → Hp → Prop} {m : Nat} (K : Kp E h p r c g P s o) (w : qF g) (hm : m < 3) (hq : Q (bI (decide (P m < sq g))) h) : OkI E YX1_isOnBoard (d + 1) [.ref p, .int (nI m)] h Q := by
  refine rnX1_isOnBoard ?_
  have hsq := w.sq_lt
  have hP := K.2.2.2.2.1 m hm
  refine ⟨⟨_, K.2.2.1⟩, c_placeOf K hm ?_⟩
  simp only [K.fs, true_and, K.1.fs, nI_leI (show sq g < 2 ^ 31 by omega) (show P m < 2 ^ 31 by omega)]
  refine ⟨fun q => ⟨Or.inl rfl, ?_⟩, fun q => ⟨Or.inr rfl, ?_⟩⟩
  · rw [decide_eq_false (by omega)] at hq; exact hq
  · rw [decide_eq_true (by omega)] at hq; exact hq
theorem c_missing {Q : Int32 → Hp → Prop} (K : Kp E h p r c g P s o) (w : qF g) (hq : Q (nI (ms g P)) h) : OkI E YX1_missing (d + 2) [.ref p] h Q := by
  refine rnX1_missing (fun K4 k4 => ?_)
  have hn : qn g ≤ 3 := w.2.2.2.2.2.2.1
  refine lp_up (K := fun m => K4 p (nI (cN (fun m => decide (sq g ≤ P m)) m)) (nI m) h) (qn g) (fun m hm ih => ?_) ?_ 0 (Nat.zero_le _)
  · refine k4 _ _ _ _ ?_
    simp only [vcX1_missing_4, K.fs, true_and, K.1.fs, nI_leI (show qn g < 2 ^ 31 by omega) (show m < 2 ^ 31 by omega)]
    refine ⟨fun q => absurd q (by omega), fun _ => c_isOnBoard K w (by omega) ?_⟩
    rw [← nI_1, cN] at ih
    refine bI_c' (fun q => ?_) (fun q => ?_)
    · rw [if_pos (by simpa using q)] at ih
      rw [n_lit1, nI_add]; exact ih
    · rw [if_neg (by simpa using q)] at ih
      exact ih
  · refine k4 _ _ _ _ ?_
    simp only [vcX1_missing_4, K.fs, true_and, K.1.fs]
    exact ⟨fun _ => hq, fun q => absurd (nI_le (Nat.le_refl _) (by omega)) q⟩
def mnF (P : Nat → Nat) (t : Nat) : Nat → Nat → Option Nat
  | 0, _ => none
  | k + 1, m => if P m = t then some m else mnF P t k (m + 1)
theorem c_manOn {Q : Int32 → Hp → Prop} {t : Nat} (K : Kp E h p r c g P s o) (w : qF g) (ht : t < 2 ^ 31) (hq : Q (lxI (mnF P t (qn g) 0)) h) : OkI E YX1_manOn (d + 1) [.ref p, .int (nI t)] h Q := by
  refine rnX1_manOn (fun K2 k2 => ?_)
  have hn : qn g ≤ 3 := w.2.2.2.2.2.2.1
  have hsq := w.sq_lt
  have loop : ∀ k m, k + m = qn g → mnF P t k m = mnF P t (qn g) 0 → K2 p (nI t) (nI m) h := by
    intro k
    induction k with
    | zero =>
      intro m e hc
      refine k2 _ _ _ _ ?_
      simp only [vcX1_manOn_2, K.fs, true_and, K.1.fs]
      refine ⟨fun _ => ?_, fun q => absurd (nI_le (by omega) (by omega)) q⟩
      rw [← hc] at hq; exact hq
    | succ k ih =>
      intro m e hc
      refine k2 _ _ _ _ ?_
      have hP := K.2.2.2.2.1 m (by omega)
      simp only [vcX1_manOn_2, K.fs, true_and, K.1.fs, nI_leI (show qn g < 2 ^ 31 by omega) (show m < 2 ^ 31 by omega)]
      refine ⟨fun q => absurd q (by omega), fun _ => c_placeOf K (by omega) ?_⟩
      rw [nI_eq (by omega) ht, nI_1]
      rw [mnF] at hc
      refine ⟨fun q => ?_, fun q => ?_⟩
      · rw [if_neg q] at hc
        exact ih (m + 1) (by omega) hc
      · rw [if_pos q] at hc
        rw [← hc] at hq; exact hq
  exact loop _ 0 rfl rfl
theorem c_put {Q : Hp → Prop} {m t : Nat} (K : Kp E h p r c g P s o) (hm : m < 3) (ht : t ≤ sq g) (hq : ∀ h', Kp E h' p r c g (uP P m t) s o → Fr2 h h' p → Q h') : OkV E YX1_put d [.ref p, .int (nI m), .int (nI t)] h Q := by
  refine rnX1_put ?_
  simp only [vcX1_put_0, K.fs, true_and, K.pl hm, nI_leI (show 3 < 2 ^ 31 by omega) (show m < 2 ^ 31 by omega)]
  refine ⟨fun q => absurd q (nI_pos (by omega)), fun _ => ⟨fun q => absurd q (by omega), fun _ h1 e1 => ?_⟩⟩
  subst e1
  obtain ⟨k1, k2⟩ := K.st hm ht
  exact hq _ k1 k2
theorem c_putN {Q : Hp → Prop} {v : Int32} (hq : Q h) : OkV E YX1_put d [.ref p, .int (-1), .int v] h Q := by
  refine rnX1_put ?_
  exact ⟨fun _ => hq, fun q => absurd (by decide) q⟩
theorem c_read {Q : Hp → Prop} {x : Nat} (K : Kp E h p r c g P s o) (w : qF g) (hx : x < nx g) (hq : ∀ h', Kp E h' p r c g (plc g x) (x % 2) (ocF g (plc g x) 3) → Fr2 h h' p → Q h') : OkV E YX1_read (d + 1) [.ref p, .int (nI x)] h Q := by
  refine rnX1_read (fun K14 k14 => ?_)
  have hnx := nx_le w
  have hsq := w.sq_lt
  simp only [vcX1_read_0, K.fs, true_and]
  intro h1 e1
  rw [show (1 : Int32) = nI 1 from rfl, nx_and, Nat.and_one_is_mod] at e1
  subst e1
  obtain ⟨K1, F1⟩ := K.pf (x % 2) o 3 (nI (x % 2)) rfl
  simp only [K1.fs, true_and]
  intro h2 e2
  subst e2
  obtain ⟨K2, F2⟩ := K1.pf (x % 2) 0 4 0 rfl
  refine lp_up (K := fun m => ∀ h' P', Kp E h' p r c g P' (x % 2) (ocF g (plc g x) m) → (∀ i, i < m → P' i = plc g x i) → Fr2 h h' p → K14 p (nI x) (nI m) h') 3 (fun m hm ih h' P' K' Z' F' => ?_) (fun h' P' K' Z' F' => ?_) 0 (Nat.zero_le _) _ P K2 (fun i hi => absurd hi (Nat.not_lt_zero _)) (F1.tr F2)
  · refine k14 _ _ _ _ ?_
    have hp := plc_le hx m
    simp only [vcX1_read_14, K'.fs, true_and, K'.1.fs, nI_leI (show 3 < 2 ^ 31 by omega) (show m < 2 ^ 31 by omega)]
    refine ⟨fun q => absurd q (by omega), fun _ => c_squareOf K'.1 w hx hm ?_⟩
    simp only [K'.fs, true_and, K'.pl hm]
    intro h3 e3
    subst e3
    obtain ⟨K3, F3⟩ := K'.st hm hp
    have Z3 : ∀ i, i < m + 1 → uP P' m (plc g x m) i = plc g x i := fun i hi => by
      unfold uP
      by_cases q : i = m
      · rw [if_pos q, q]
      · rw [if_neg q]; exact Z' i (by omega)
    have ho := ocF_lt w (plc g x) m
    simp only [K3.fs, true_and, K3.1.fs, nI_leI (show sq g < 2 ^ 31 by omega) (show plc g x m < 2 ^ 31 by omega), nI_1]
    refine ⟨fun q => ?_, fun q h4 e4 => ?_⟩
    · have : ocF g (plc g x) (m + 1) = ocF g (plc g x) m := by rw [ocF, if_neg (by omega), Nat.or_zero]
      exact ih _ _ (by rw [this]; exact K3) Z3 (F'.tr F3)
    · have : ocF g (plc g x) (m + 1) = ocF g (plc g x) m ||| 2 ^ plc g x m := by rw [ocF, if_pos (by omega)]
      rw [n_shl _ (by omega), nx_or, ← this] at e4
      subst e4
      obtain ⟨K4, F4⟩ := K3.pf (x % 2) (ocF g (plc g x) (m + 1)) 4 (nI (ocF g (plc g x) (m + 1))) rfl
      exact ih _ _ K4 Z3 ((F'.tr F3).tr F4)
  · refine k14 _ _ _ _ ?_
    simp only [vcX1_read_14, K'.fs, true_and]
    refine ⟨fun _ => hq h' ?_ F', fun q => absurd (nI_le (a := 3) (b := 3) (Nat.le_refl _) (by omega)) q⟩
    obtain ⟨z1, z2, z3, ⟨F, z4, z5⟩, z6, z7⟩ := K'
    exact ⟨z1, z2, z3, ⟨F, z4, fun i hi => by rw [← Z' i hi]; exact z5 i hi⟩, fun i hi => plc_le hx i, z7⟩
end
