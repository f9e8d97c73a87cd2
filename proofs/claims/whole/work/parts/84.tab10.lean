section
variable {g : Gm}
theorem cap_ms (x : Nat) (hx : x < nx g) : cap g x = decide (0 < ms g (plc g x)) := by
  unfold cap ms
  have : ∀ n, capN g x n = decide (0 < cN (fun m => decide (sq g ≤ plc g x m)) n) := by
    intro n
    induction n with
    | zero => simp [capN, cN]
    | succ n ih =>
      rw [capN_succ, ih, cN]
      have hp := plc_le hx n
      by_cases c : plc g x n = sq g
      · rw [if_pos (decide_eq_true (by omega))]; simp [c]
      · rw [if_neg (by simp; omega)]; simp [c]
  exact this _
theorem zg_at {i n : Nat} (hz : zzP g (2 * n) = true) (hi : zgC g n = i) (hi2 : i < 2 ^ 31) : ∀ N, n < N → N < 2 ^ 31 → zgF g (nI i) N = nI (2 * n)
  | 0, h, _ => by omega
  | N + 1, h, hN => by
    rw [zgF]
    by_cases c : n = N
    · subst c
      rw [hi]; simp [hz]
    · have ih := zg_at hz hi hi2 N (by omega) (by omega)
      have hgt : i < zgC g N := by
        have : zgC g (n + 1) = zgC g n + 1 := by unfold zgC; rw [cN, if_pos hz]
        have mono : ∀ k, zgC g (n + 1) ≤ zgC g (n + 1 + k) := by
          intro k
          induction k with
          | zero => exact Nat.le_refl _
          | succ k ihk =>
            have : zgC g (n + 1 + k) ≤ zgC g (n + 1 + k + 1) := by unfold zgC; rw [cN]; omega
            exact Nat.le_trans ihk this
        have := mono (N - (n + 1))
        rw [show n + 1 + (N - (n + 1)) = N by omega] at this
        omega
      have hle : zgC g N ≤ N := cN_le _ _
      have : (nI (zgC g N) == nI i) = false := by
        rw [Bool.eq_false_iff]
        intro z
        have := (nI_eq (show zgC g N < 2 ^ 31 by omega) hi2).mp (beq_iff_eq.mp z)
        omega
      rw [this, Bool.and_false, if_neg (by decide)]
      exact ih
theorem zg_no {i : Nat} (hi2 : i < 2 ^ 31) : ∀ N, N < 2 ^ 31 → (∀ n, n < N → zzP g (2 * n) = true → zgC g n ≠ i) → zgF g (nI i) N = -1
  | 0, _, _ => rfl
  | N + 1, hN, h => by
    rw [zgF, zg_no hi2 N (by omega) (fun n hn => h n (by omega))]
    have hle : zgC g N ≤ N := cN_le _ _
    cases hz : zzP g (2 * N) with
    | false => rfl
    | true =>
      have : (nI (zgC g N) == nI i) = false := by
        rw [Bool.eq_false_iff]
        intro z
        exact h N (by omega) hz ((nI_eq (show zgC g N < 2 ^ 31 by omega) hi2).mp (beq_iff_eq.mp z))
      rw [this]; rfl
theorem dst_c (v : qV g) (k : Int32) (x : Nat) : dst g k x = -5 ∨ ∃ e, e < 2 ^ 30 ∧ dst g k x = nI e := by
  unfold dst
  split
  · rcases Ld_inv v 4394 x with ⟨-, z⟩ | ⟨-, -, e, h1, h2⟩
    · exact Or.inl z
    · exact Or.inr ⟨e, by omega, h2⟩
  · cases hb : (Cv g 4394 x).2 with
    | false => exact Or.inl (Cv_neg _ hb)
    | true =>
      rcases Cv_inv v 4394 x hb with z | ⟨e, h1, h2⟩
      · exact Or.inl z
      · exact Or.inr ⟨e, by omega, h2⟩
end
section
variable {E : Wd} {h hb : Hp} {t r : Nat} {g : Gm} {A : Nat → Nat → Int32} {a b c : Int32} {d : Nat}
theorem c_numberWithValue {Q : Int32 → Hp → Prop} {s : Nat} {z y : Int32} (F : TF E h t r g A) (w : qF g) (hs : s < 2) (hy : y = 0 ∨ y = 1 ∨ y = 2) (hq : Q (nI (cN (fun i => pqP g z y (s + 2 * i)) (nx g / 2))) h) : OkI E YX6_numberWithValue (d + 2) [.ref t, .int (nI s), .int z, .int y] h Q := by
  refine rnX6_numberWithValue (fun K6 k6 => ?_)
  obtain ⟨T, G, V⟩ := F
  have hnx := nx_le w
  have he := nx_even g
  refine lp_up (K := fun i => K6 t z y (nI (cN (fun i => pqP g z y (s + 2 * i)) i)) (nI (s + 2 * i)) h) (nx g / 2) (fun i hi ih => ?_) ?_ 0 (Nat.zero_le _)
  · refine k6 _ _ _ _ _ _ ?_
    have hlt : s + 2 * i < nx g := by omega
    simp only [vcX6_numberWithValue_6, T.fs, true_and, nI_leI (show nx g < 2 ^ 31 by omega) (show s + 2 * i < 2 ^ 31 by omega)]
    have e2 : nI (s + 2 * i) + 2 = nI (s + 2 * (i + 1)) := by rw [n_lit2, nI_add]; rfl
    have yes : pqP g z y (s + 2 * i) = true → K6 t z y (nI (cN (fun i => pqP g z y (s + 2 * i)) i) + 1) (nI (s + 2 * i) + 2) h := fun q => by
      rw [cN, if_pos q] at ih
      rw [e2, nI_1]; exact ih
    have no : pqP g z y (s + 2 * i) = false → K6 t z y (nI (cN (fun i => pqP g z y (s + 2 * i)) i)) (nI (s + 2 * i) + 2) h := fun q => by
      rw [cN, if_neg (by rw [q]; decide)] at ih
      rw [e2]; exact ih
    refine ⟨fun q => absurd q (by omega), fun _ => c_tIsPossibleN T G w (by omega) (bI_c (fun q => no (by unfold pqP; rw [q]; rfl)) (fun q => ⟨⟨_, T.1⟩, c_valueOf T w hlt ?_⟩))⟩
    rw [(V _ hlt).1]
    refine ⟨fun q2 => ?_, fun q2 => no (by unfold pqP; simp [q2])⟩
    have t2 := (T.tt (show s + 2 * i < 4394 by omega)).2.1
    rw [(G.1 _ hlt).2] at t2
    have hm3 : ms g (plc g (s + 2 * i)) ≤ 3 := Nat.le_trans (cN_le _ _) w.2.2.2.2.2.2.1
    have L52 : ∀ e : Bool, e = cap g (s + 2 * i) → vcX6_numberWithValue_52 E (d + 1) K6 t z y (nI (cN (fun i => pqP g z y (s + 2 * i)) i)) (nI (s + 2 * i)) (bI e) h Q := fun e he => by
      have ep : pqP g z y (s + 2 * i) = (y == 2 || e == (y == 1)) := by
        unfold pqP; rw [q, q2, ← he]; simp
      rcases hy with rfl | rfl | rfl
      · refine ⟨fun z => absurd z (by decide), fun _ => ⟨fun z => no ?_, fun z => yes ?_⟩⟩
        · rw [ep]; cases e with
          | false => exact absurd rfl z
          | true => rfl
        · rw [ep]; cases e with
          | false => rfl
          | true => exact absurd z (by decide)
      · refine ⟨fun z => absurd z (by decide), fun _ => ⟨fun z => no ?_, fun z => yes ?_⟩⟩
        · rw [ep]; cases e with
          | false => rfl
          | true => exact absurd rfl z
        · rw [ep]; cases e with
          | false => exact absurd z (by decide)
          | true => rfl
      · exact ⟨fun _ => yes (by rw [ep]; rfl), fun z => absurd rfl z⟩
    simp only [T.fs, true_and, t2]
    have ec := cap_ms (g := g) (s + 2 * i) hlt
    refine ⟨fun q3 => L52 false ?_, fun q3 => L52 true ?_⟩
    · rw [ec, decide_eq_false]
      intro z
      exact nI_nle z (by omega) q3
    · rw [ec, decide_eq_true]
      rcases Nat.eq_zero_or_pos (ms g (plc g (s + 2 * i))) with z | z
      · rw [z] at q3; exact absurd (by decide) q3
      · exact z
  · refine k6 _ _ _ _ _ _ ?_
    simp only [vcX6_numberWithValue_6, T.fs, true_and]
    exact ⟨fun _ => hq, fun q => absurd (nI_le (by omega) (by omega)) q⟩
theorem c_numberWithDistance {Q : Int32 → Hp → Prop} {s : Nat} {k l : Int32} (F : TF E h t r g A) (w : qF g) (hs : s < 2) (hq : Q (nI (cN (fun i => spP g k l (s + 2 * i)) (nx g / 2))) h) : OkI E YX6_numberWithDistance (d + 3) [.ref t, .int k, .int (nI s), .int l] h Q := by
  refine rnX6_numberWithDistance (fun K6 k6 => ?_)
  obtain ⟨T, G, V⟩ := F
  have hnx := nx_le w
  have he := nx_even g
  refine lp_up (K := fun i => K6 t k l (nI (cN (fun i => spP g k l (s + 2 * i)) i)) (nI (s + 2 * i)) h) (nx g / 2) (fun i hi ih => ?_) ?_ 0 (Nat.zero_le _)
  · refine k6 _ _ _ _ _ _ ?_
    have hlt : s + 2 * i < nx g := by omega
    simp only [vcX6_numberWithDistance_6, T.fs, true_and, nI_leI (show nx g < 2 ^ 31 by omega) (show s + 2 * i < 2 ^ 31 by omega)]
    have e2 : nI (s + 2 * i) + 2 = nI (s + 2 * (i + 1)) := by rw [n_lit2, nI_add]; rfl
    have no : spP g k l (s + 2 * i) = false → K6 t k l (nI (cN (fun i => spP g k l (s + 2 * i)) i)) (nI (s + 2 * i) + 2) h := fun q => by
      rw [cN, if_neg (by rw [q]; decide)] at ih
      rw [e2]; exact ih
    refine ⟨fun q => absurd q (by omega), fun _ => c_tIsPossibleN T G w (by omega) (bI_c (fun q => no (by unfold spP; rw [q]; rfl)) (fun q => ⟨⟨_, T.1⟩, c_distanceOf T V w hlt ⟨fun q2 => no (by unfold spP; simp [q2]), fun q2 => ?_⟩⟩))⟩
    have yes : spP g k l (s + 2 * i) = true := by unfold spP; simp [q, q2]
    rw [cN, if_pos yes] at ih
    rw [e2, nI_1]; exact ih
  · refine k6 _ _ _ _ _ _ ?_
    simp only [vcX6_numberWithDistance_6, T.fs, true_and]
    exact ⟨fun _ => hq, fun q => absurd (nI_le (by omega) (by omega)) q⟩
/-- the place found so far is the one of the reference, and its distance -/
def lgR (g : Gm) (k : Int32) (n : Nat) (x y : Int32) : Prop := (lgN g k n = (-5, -5) ∧ x = -1 ∧ y = -1) ∨ ∃ i, i < nx g ∧ lgN g k n = (dst g k i, nI i) ∧ 0 ≤ dst g k i ∧ x = nI i ∧ y = dst g k i
theorem c_mostDistant {Q : Int32 → Hp → Prop} {k : Int32} (F : TF E h t r g A) (w : qF g) (v : qV g) (hq : ∀ x y, lgR g k (nx g) x y → Q x h) : OkI E YX6_mostDistant (d + 3) [.ref t, .int k] h Q := by
  refine rnX6_mostDistant (fun K7 k7 => ?_)
  obtain ⟨T, G, V⟩ := F
  have hnx := nx_le w
  refine lp_up (K := fun i => ∀ x y, lgR g k i x y → K7 t k x y (nI i) h) (nx g) (fun i hi ih x y hR => ?_) (fun x y hR => ?_) 0 (Nat.zero_le _) (-1) (-1) (Or.inl ⟨rfl, rfl, rfl⟩)
  · refine k7 _ _ _ _ _ _ ?_
    simp only [vcX6_mostDistant_7, T.fs, true_and, nI_leI (show nx g < 2 ^ 31 by omega) (show i < 2 ^ 31 by omega), nI_1]
    have keep : lgN g k (i + 1) = lgN g k i → K7 t k x y (nI (i + 1)) h := fun e => ih x y (by unfold lgR at hR ⊢; rw [e]; exact hR)
    refine ⟨fun q => absurd q (by omega), fun _ => c_tIsPossibleN T G w (by omega) (bI_c (fun q => keep (by rw [lgN, q, Bool.false_and, if_neg (by decide)])) (fun q => ⟨⟨_, T.1⟩, c_distanceOf T V w hi ⟨fun q2 => ⟨⟨_, T.1⟩, c_distanceOf T V w hi ?_⟩, fun q2 => ?_⟩⟩))⟩
    · have h0 : 0 ≤ dst g k i := by
        rcases dst_c v k i with z | ⟨e, h1, h2⟩
        · rw [z] at q2
          rcases hR with ⟨-, -, z2⟩ | ⟨j, -, -, z2, -, z3⟩
          · rw [z2] at q2; exact absurd q2 (by decide)
          · rw [z3] at q2
            exact absurd (Int32.lt_of_le_of_lt z2 q2) (by decide)
        · rw [h2]; exact nI_pos' (by omega)
      have hgt : ¬ dst g k i ≤ (lgN g k i).1 := by
        rcases hR with ⟨z1, -, -⟩ | ⟨j, -, z1, z2, -, z3⟩
        · rw [z1]
          intro q3
          exact absurd (Int32.le_trans h0 q3) (by decide)
        · rw [z1]
          rw [z3] at q2
          exact Int32.not_le.mpr q2
      refine ih (nI i) (dst g k i) (Or.inr ⟨i, hi, ?_, h0, rfl, rfl⟩)
      rw [lgN, q, Bool.true_and, if_pos (decide_eq_true hgt)]
    · refine keep ?_
      rw [lgN, q, Bool.true_and]
      have hle : dst g k i ≤ (lgN g k i).1 := by
        rcases hR with ⟨z1, -, z2⟩ | ⟨j, -, z1, -, -, z3⟩
        · rw [z1]
          rw [z2] at q2
          rcases dst_c v k i with z | ⟨e, h1, h2⟩
          · rw [z]; exact Int32.le_refl _
          · rw [h2] at q2
            exact absurd (Int32.lt_of_lt_of_le (show (-1 : Int32) < 0 by decide) (nI_pos' (by omega))) q2
        · rw [z1]
          rw [z3] at q2
          exact Int32.not_lt.mp q2
      rw [if_neg (by simpa using hle)]
  · refine k7 _ _ _ _ _ _ ?_
    simp only [vcX6_mostDistant_7, T.fs, true_and]
    exact ⟨fun _ => hq x y hR, fun q => absurd (nI_le (Nat.le_refl _) (by omega)) q⟩
theorem c_isMutualZugzwang {Q : Int32 → Hp → Prop} {i : Nat} (F : TF E h t r g A) (w : qF g) (hi : i + 1 < nx g) (hq : Q (bI (zzP g i)) h) : OkI E YX6_isMutualZugzwang (d + 2) [.ref t, .int (nI i)] h Q := by
  obtain ⟨T, G, V⟩ := F
  have hnx := nx_le w
  unfold zzP at hq
  refine rnX6_isMutualZugzwang ⟨⟨_, T.1⟩, c_tIsPossibleN T G w (by omega) (bI_c (fun q => ⟨Or.inl rfl, ?_⟩) (fun q => ⟨⟨_, T.1⟩, ?_⟩))⟩
  · rw [q] at hq; exact hq
  · rw [nI_1]
    refine c_tIsPossibleN T G w (by omega) (bI_c (fun q2 => ⟨Or.inl rfl, ?_⟩) (fun q2 => ⟨⟨_, T.1⟩, c_valueOf T w (by omega) ⟨⟨_, T.1⟩, c_valueOf T w (by omega) ?_⟩⟩))
    · rw [q2, Bool.and_false] at hq; exact hq
    · rw [(V i (by omega)).1, (V (i + 1) (by omega)).1]
      rw [q, q2] at hq
      refine ⟨fun q3 => ⟨Or.inl rfl, ?_⟩, fun q3 => ⟨Or.inr rfl, ?_⟩⟩
      · rw [decide_eq_false (fun z => z q3)] at hq; exact hq
      · rw [decide_eq_true q3] at hq; exact hq
theorem c_mutualZugzwangs {Q : Int32 → Hp → Prop} (F : TF E h t r g A) (w : qF g) (hq : Q (nI (zgC g (nx g / 2))) h) : OkI E YX6_mutualZugzwangs (d + 3) [.ref t] h Q := by
  refine rnX6_mutualZugzwangs (fun K4 k4 => ?_)
  have hnx := nx_le w
  have he := nx_even g
  refine lp_up (K := fun i => K4 t (nI (zgC g i)) (nI (2 * i)) h) (nx g / 2) (fun i hi ih => ?_) ?_ 0 (Nat.zero_le _)
  · refine k4 _ _ _ _ ?_
    have e2 : nI (2 * i) + 2 = nI (2 * (i + 1)) := by rw [n_lit2, nI_add]; rfl
    simp only [vcX6_mutualZugzwangs_4, F.1.fs, true_and, nI_leI (show nx g < 2 ^ 31 by omega) (show 2 * i < 2 ^ 31 by omega), e2]
    refine ⟨fun q => absurd q (by omega), fun _ => c_isMutualZugzwang F w (by omega) (bI_c (fun q => ?_) (fun q => ?_))⟩
    · have : zgC g (i + 1) = zgC g i := by unfold zgC; rw [cN, if_neg (by rw [q]; decide)]; rfl
      rw [this] at ih; exact ih
    · have : zgC g (i + 1) = zgC g i + 1 := by unfold zgC; rw [cN, if_pos q]
      rw [this] at ih
      rw [nI_1]; exact ih
  · refine k4 _ _ _ _ ?_
    simp only [vcX6_mutualZugzwangs_4, F.1.fs, true_and]
    exact ⟨fun _ => hq, fun q => absurd (nI_le (by omega) (by omega)) q⟩
theorem c_mutualZugzwang {Q : Int32 → Hp → Prop} {i : Nat} (F : TF E h t r g A) (w : qF g) (hi : i < 2 ^ 31) (hq : Q (zgF g (nI i) (nx g / 2)) h) : OkI E YX6_mutualZugzwang (d + 3) [.ref t, .int (nI i)] h Q := by
  refine rnX6_mutualZugzwang (fun K4 k4 => ?_)
  have hnx := nx_le w
  have he := nx_even g
  refine lp_up (K := fun n => (∀ m, m < n → zzP g (2 * m) = true → zgC g m ≠ i) → zgC g n ≤ i → K4 t (nI (i - zgC g n)) (nI (2 * n)) h) (nx g / 2) (fun n hn ih h1 h2 => ?_) (fun h1 h2 => ?_) 0 (Nat.zero_le _) (fun m hm => absurd hm (Nat.not_lt_zero _)) (Nat.zero_le _)
  · refine k4 _ _ _ _ ?_
    have e2 : nI (2 * n) + 2 = nI (2 * (n + 1)) := by rw [n_lit2, nI_add]; rfl
    simp only [vcX6_mutualZugzwang_4, F.1.fs, true_and, nI_leI (show nx g < 2 ^ 31 by omega) (show 2 * n < 2 ^ 31 by omega), e2]
    refine ⟨fun q => absurd q (by omega), fun _ => c_isMutualZugzwang F w (by omega) (bI_c' (fun q => ?_) (fun q => ?_))⟩
    · have e : zgC g (n + 1) = zgC g n := by unfold zgC; rw [cN, if_neg (by rw [q]; decide)]; rfl
      rw [e] at ih
      refine ih (fun m hm hz => ?_) h2
      by_cases z : m = n
      · rw [z, q] at hz; cases hz
      · exact h1 m (by omega) hz
    · have e : zgC g (n + 1) = zgC g n + 1 := by unfold zgC; rw [cN, if_pos q]
      rw [← nI_0, nI_eq (by omega) (by omega)]
      refine ⟨fun q2 => ?_, fun q2 => ?_⟩
      · rw [e] at ih
        have := ih (fun m hm hz => by
          by_cases z : m = n
          · rw [z]; omega
          · exact h1 m (by omega) hz) (by omega)
        have e3 : nI (i - zgC g n) + (-1) = nI (i - (zgC g n + 1)) := by
          have : nI (i - zgC g n) - 1 = nI (i - zgC g n - 1) := n_sub (show 1 ≤ i - zgC g n by omega)
          rw [show i - (zgC g n + 1) = i - zgC g n - 1 by omega, ← this, Int32.sub_eq_add_neg]
        rw [e3]; exact this
      · rw [zg_at q (show zgC g n = i by omega) hi _ hn (by omega)] at hq
        exact hq
  · refine k4 _ _ _ _ ?_
    simp only [vcX6_mutualZugzwang_4, F.1.fs, true_and]
    rw [zg_no hi _ (by omega) h1] at hq
    exact ⟨fun _ => hq, fun q => absurd (nI_le (by omega) (by omega)) q⟩
def ulQ (g : Gm) (m x : Nat) : Bool := val g x != val g m || (srV g 2 x != 0 && srV g 2 x != val g x)
def ulD (g : Gm) (m : Nat) (l : List Nat) (k : Nat) : Bool := !rpt g m l k k && ulQ g m (imI g m (l.getD k 0))
theorem ul_cnt (w : qF g) {m : Nat} (hP : Ps g m = true) : cN (ulD g m (syL g 8)) (syL g 8).length = cN (ulP g m) (nx g) := by
  have hm := Ps_lt hP
  have h1 := rpt_cnt w hm (ulQ g m)
  have e : cN (ulD g m (syL g 8)) (syL g 8).length = cN (fun x => imB g m x && ulQ g m x) (nx g) := h1
  rw [e]
  refine cN_cg (fun x hx => ?_)
  rw [imB_orb w hm hx]
  unfold ulP ulQ
  by_cases q : can g x = can g m
  · have : Ps g x = true := by rw [← Ps_can w hx, q, Ps_can w hm]; exact hP
    rw [this, q]; simp
  · have : (can g x == can g m) = false := by simpa using q
    rw [this]; simp
theorem c_unlikeImages {Q : Int32 → Hp → Prop} {m : Nat} (F : TF E h t r g A) (w : qF g) (v : qV g) (bd : bnd g) (hP : Ps g m = true) (hq : ∀ h', TF E h' t r g A → FT h h' t r → Q (nI (cN (ulP g m) (nx g))) h') : OkI E YX6_unlikeImages (d + 7) [.ref t, .int (nI m)] h Q := by
  refine rnX6_unlikeImages (fun K4 k4 => ?_)
  have hm := Ps_lt hP
  rw [← ul_cnt w hP] at hq
  obtain ⟨l, hl⟩ : ∃ l, l = syL g 8 := ⟨_, rfl⟩
  have hl8 : l.length ≤ 8 := by rw [hl]; exact syL_len g 8
  obtain ⟨D, hD⟩ : ∃ D, D = ulD g m l := ⟨_, rfl⟩
  have hq' : ∀ h', TF E h' t r g A → FT h h' t r → Q (nI (cN D l.length)) h' := by rw [hD, hl]; exact hq
  refine lp_up (K := fun k => ∀ h', TF E h' t r g A → FT h h' t r → K4 t (nI m) (nI (cN D k)) (nI k) h') l.length (fun k hk ih h' F' f' => ?_) (fun h' F' f' => ?_) 0 (Nat.zero_le _) h F (FT.rfl h t r)
  · refine k4 _ _ _ _ _ ?_
    have Kq' := F'.1.2.2.1
    rw [← hl] at Kq'
    have hlt := Kq'.lt w hm hk
    have hsy := (syL_mem hl).mp (List.mem_of_getElem? (getD_some hk))
    have hPi : Ps g (imI g m (l.getD k 0)) = true := by rw [Ps_im w hsy.1 hsy.2 hm]; exact hP
    have next : ∀ h2, TF E h2 t r g A → FT h h2 t r → (D k = true → K4 t (nI m) (nI (cN D k) + 1) (nI k + 1) h2) ∧ (D k = false → K4 t (nI m) (nI (cN D k)) (nI k + 1) h2) := fun h2 F2 f2 => by
      have := ih h2 F2 f2
      rw [cN] at this
      refine ⟨fun z => ?_, fun z => ?_⟩
      · rw [if_pos z] at this; rw [nI_1, nI_1]; exact this
      · rw [if_neg (by rw [z]; decide)] at this; rw [nI_1]; exact this
    simp only [vcX6_unlikeImages_4, F'.1.fs, true_and, Kq'.fs, nI_leI (show l.length < 2 ^ 31 by omega) (show k < 2 ^ 31 by omega)]
    refine ⟨fun z => absurd z (by omega), fun _ => c_isRepeated Kq' w hm hk (bI_c (fun z => ?_) (fun z => ?_))⟩
    · simp only [F'.1.fs, true_and]
      refine c_imageOf Kq' w hm (getD_some hk) ?_
      obtain ⟨y, ey⟩ : ∃ y, imI g m (l.getD k 0) = y := ⟨_, rfl⟩
      rw [ey] at hlt hPi ⊢
      refine c_searched (d := d) w v bd 2 _ h' _ (by omega) F' hPi (fun h5 F5 f5 => ?_)
      obtain ⟨n1, n2⟩ := next h5 F5 (f'.tr f5)
      have eD : D k = (val g y != val g m || (srV g 2 y != 0 && srV g 2 y != val g y)) := by
        rw [hD]
        show (!rpt g m l k k && ulQ g m (imI g m (l.getD k 0))) = _
        rw [z, ey]; rfl
      have L71 : ∀ e : Bool, e = (srV g 2 y == 0 || srV g 2 y == val g y) → vcX6_unlikeImages_71 E (d + 6) K4 t (nI m) (nI (cN D k)) (nI k) (nI y) (bI e) h5 Q := fun e he => by
        refine ⟨⟨_, F5.1.1⟩, c_valueOf F5.1 w hlt ?_⟩
        rw [(F5.2.2 _ hlt).1]
        refine ⟨⟨_, F5.1.1⟩, c_valueOf F5.1 w hm ?_⟩
        rw [(F5.2.2 _ hm).1]
        refine ⟨fun z2 => n1 (by rw [eD]; simp [z2]), fun z2 => bI_c' (fun z3 => n1 ?_) (fun z3 => n2 ?_)⟩
        · rw [z3] at he
          have he := he.symm
          rw [Bool.or_eq_false_iff] at he
          rw [eD]
          simp only [bne, he.1, he.2]; simp
        · rw [z3] at he
          have he := he.symm
          rw [eD]
          have e1 : (val g y != val g m) = false := by simp [z2]
          rw [e1, Bool.false_or]
          simp only [bne]
          rw [Bool.or_eq_true] at he
          rcases he with he | he
          · rw [he]; rfl
          · rw [he]; simp
      refine ⟨fun z2 => L71 true ?_, fun z2 => ⟨⟨_, F5.1.1⟩, c_valueOf F5.1 w hlt ?_⟩⟩
      · rw [z2]; rfl
      · rw [(F5.2.2 _ hlt).1]
        refine ⟨fun z3 => L71 false ?_, fun z3 => L71 true ?_⟩
        · have e1 : (srV g 2 y == 0) = false := by simpa using z2
          have e2 : (srV g 2 y == val g y) = false := by simpa using z3
          rw [e1, e2]; rfl
        · rw [z3]; simp
    · refine (next h' F' f').2 ?_
      rw [hD]
      show (!rpt g m l k k && _) = false
      rw [z]; rfl
  · refine k4 _ _ _ _ _ ?_
    have Kq' := F'.1.2.2.1
    rw [← hl] at Kq'
    simp only [vcX6_unlikeImages_4, F'.1.fs, true_and, Kq'.fs]
    exact ⟨fun _ => hq' h' F' f', fun z => absurd (nI_le (Nat.le_refl _) (by omega)) z⟩
end
