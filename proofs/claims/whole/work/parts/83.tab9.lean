section
variable {g : Gm}
theorem bsN_val {x : Nat} : ∀ n b, bsN g x n = some b → val g (yO g x b) = -val g x
  | 0, _, h => by cases h
  | n + 1, b, h => by
    rw [bsN] at h
    by_cases c : (val g (yO g x n) == -val g x && btr g x (yO g x n) (bsN g x n)) = true
    · rw [if_pos c] at h
      cases h
      simp only [Bool.and_eq_true, beq_iff_eq] at c
      exact c.1
    · rw [if_neg c] at h; exact bsN_val n b h
theorem tE_nat (v : qV g) {y : Nat} (h : val g y = 1 ∨ val g y = -1) : ∃ e, e ≤ 4394 ∧ tE g y = nI e := by
  rcases Ld_inv v 4394 y with ⟨z, -⟩ | ⟨-, -, e⟩
  · have z : val g y = 0 := z
    rw [z] at h; rcases h with h | h <;> exact absurd h (by decide)
  · exact e
theorem sub_pos {a b : Nat} (ha : a < 2 ^ 30) (hb : b < 2 ^ 30) : (0 : Int32) < nI a - nI b ↔ b < a := by
  rw [Int32.lt_iff_toInt_lt, sgn_sub ha hb, show (0 : Int32).toInt = 0 from rfl]
  omega
theorem gain_eq (v : qV g) {x y b : Nat} (hy : val g y = -val g x) (hb : val g (yO g x b) = -val g x) : (0 : Int32) < val g x * (tE g (yO g x b) - tE g y) ↔ btr g x y (some b) = true := by
  have hv := Ld_c v 4394 x
  have hv : val g x = -1 ∨ val g x = 0 ∨ val g x = 1 := hv
  show _ ↔ ((val g x == 1 && decide (tE g y < tE g (yO g x b))) || (val g x == -1 && decide (¬ tE g y ≤ tE g (yO g x b)))) = true
  rcases hv with e | e | e
  · rw [e] at hy hb ⊢
    obtain ⟨p, hp, e1⟩ := tE_nat v (y := y) (Or.inl hy)
    obtain ⟨q, hq, e2⟩ := tE_nat v (y := yO g x b) (Or.inl hb)
    rw [e1, e2, ← Int32.neg_eq_neg_one_mul, Int32.neg_sub, sub_pos (by omega) (by omega)]
    simp only [show ((-1 : Int32) == 1) = false from rfl, Bool.false_and, Bool.false_or, beq_self_eq_true, Bool.true_and, decide_eq_true_eq, nI_leI (show p < 2 ^ 31 by omega) (show q < 2 ^ 31 by omega)]
    omega
  · rw [e, Int32.zero_mul]
    simp only [show ((0 : Int32) == 1) = false from rfl, show ((0 : Int32) == -1) = false from rfl, Bool.false_and, Bool.or_false]
    exact ⟨fun z => absurd z (by decide), fun z => by cases z⟩
  · rw [e] at hy hb ⊢
    obtain ⟨p, hp, e1⟩ := tE_nat v (y := y) (Or.inr hy)
    obtain ⟨q, hq, e2⟩ := tE_nat v (y := yO g x b) (Or.inr hb)
    rw [e1, e2, Int32.one_mul, sub_pos (by omega) (by omega)]
    simp only [show ((1 : Int32) == -1) = false from rfl, Bool.false_and, Bool.or_false, beq_self_eq_true, Bool.true_and, decide_eq_true_eq, nI_ltI (show p < 2 ^ 31 by omega) (show q < 2 ^ 31 by omega)]
def m1c (x : Int32) : Prop := x = -1 ∨ x = 0 ∨ x = 1
theorem m1c_neg {x : Int32} (h : m1c x) : m1c (-x) := by
  rcases h with rfl | rfl | rfl
  · exact Or.inr (Or.inr rfl)
  · exact Or.inr (Or.inl rfl)
  · exact Or.inl rfl
theorem fold_c {F : Nat → Int32} : ∀ (l : List Nat) (a : Int32), m1c a → (∀ y, y ∈ l → m1c (F y)) → m1c (l.foldl (fun a y => if -(F y) ≤ a then a else -(F y)) a) ∧ (a = 1 → l.foldl (fun a y => if -(F y) ≤ a then a else -(F y)) a = 1)
  | [], a, ha, _ => ⟨ha, fun e => e⟩
  | y :: l, a, ha, h => by
    have hy := m1c_neg (h y (List.mem_cons_self ..))
    have ht := fun z hz => h z (List.mem_cons_of_mem y hz)
    rw [List.foldl_cons]
    have hn : m1c (if -(F y) ≤ a then a else -(F y)) := by split; exact ha; exact hy
    obtain ⟨i1, i2⟩ := fold_c l _ hn ht
    refine ⟨i1, fun e => i2 ?_⟩
    rw [e]
    rcases hy with z | z | z <;> rw [z] <;> rfl
theorem srV_c (v : qV g) : ∀ e x, m1c (srV g e x)
  | 0, x => by
    rw [srV]
    split
    · exact endV_c v x
    · exact Or.inr (Or.inl rfl)
  | e + 1, x => by
    rw [srV]
    split
    · exact endV_c v x
    · exact (fold_c _ _ (Or.inl rfl) (fun y _ => srV_c v e y)).1
end
section
variable {E : Wd} {h hb : Hp} {t r : Nat} {g : Gm} {A : Nat → Nat → Int32} {a b c : Int32} {d : Nat}
theorem c_bestStep {Q : Int32 → Hp → Prop} {x : Nat} (F : TF E h t r g A) (w : qF g) (v : qV g) (bd : bnd g) (hP : Ps g x = true) (hq : Q (lxI (bst g x)) h) : OkI E YX6_bestStep (d + 3) [.ref t, .int (nI x)] h Q := by
  refine rnX6_bestStep (fun K14 k14 => ?_)
  obtain ⟨T, G, V⟩ := F
  have hx := Ps_lt hP
  have hl := mvs_le w x
  refine ⟨⟨_, T.1⟩, c_valueOf T w hx ?_⟩
  rw [(V x hx).1]
  let D : Nat → Int32 := fun k => match bsN g x k with | none => 0 | some b => tE g (yO g x b)
  refine lp_up (K := fun k => K14 t (nI x) (val g x) (lxI (bsN g x k)) (D k) (nI k) h) (mvs g x).length (fun k hk ih => ?_) ?_ 0 (Nat.zero_le _)
  · refine k14 _ _ _ _ _ _ _ ?_
    have hy := yO_Ps w hP hk
    have hyx := Ps_lt hy
    refine ⟨⟨_, T.1⟩, c_stepsOf T G w hP ?_⟩
    rw [nI_leI (by omega) (by omega)]
    refine ⟨fun q => absurd q (by omega), fun _ => ⟨⟨_, T.1⟩, c_stepOf T G w bd hP hk ⟨⟨_, T.1⟩, c_valueOf T w hyx ?_⟩⟩⟩
    rw [(V _ hyx).1]
    have take : (val g (yO g x k) == -val g x && btr g x (yO g x k) (bsN g x k)) = true → vcX6_bestStep_72 E (d + 2) K14 t (nI x) (val g x) (nI k) (nI (yO g x k)) h Q := fun e => by
      refine ⟨⟨_, T.1⟩, c_toEndOf T w hyx ?_⟩
      rw [(V _ hyx).2.1, nI_1]
      have e2 : bsN g x (k + 1) = some k := by rw [bsN, if_pos e]
      have := ih
      simp only [D, e2] at this
      exact this
    have skip : ¬ (val g (yO g x k) == -val g x && btr g x (yO g x k) (bsN g x k)) = true → K14 t (nI x) (val g x) (lxI (bsN g x k)) (D k) (nI k + 1) h := fun e => by
      have e2 : bsN g x (k + 1) = bsN g x k := by rw [bsN, if_neg e]
      rw [nI_1]
      have := ih
      simp only [D, e2] at this
      exact this
    refine ⟨fun q => ⟨⟨_, T.1⟩, c_toEndOf T w hyx ?_⟩, fun q => skip (by simp [q])⟩
    rw [(V _ hyx).2.1]
    cases hb : bsN g x k with
    | none =>
      refine ⟨fun _ => take ?_, fun z => absurd (by decide) z⟩
      rw [hb, q]; simp [btr]
    | some b =>
      have hbk := bsN_lt g x k b hb
      refine ⟨fun z => absurd z (nI_pos (by omega)), fun _ => ?_⟩
      have ge := gain_eq v q (bsN_val k b hb)
      have eD : D k = tE g (yO g x b) := by simp only [D, hb]
      rw [eD, ge]
      refine ⟨fun z => take (by rw [hb, q, z]; simp), fun z => ?_⟩
      have := skip (by rw [hb, q]; simp [z])
      rw [hb, eD] at this
      exact this
  · refine k14 _ _ _ _ _ _ _ ?_
    exact ⟨⟨_, T.1⟩, c_stepsOf T G w hP ⟨fun _ => hq, fun q => absurd (Int32.le_refl _) q⟩⟩
theorem TF.row (F : TF E h t r g A) {i : Nat} {x : Int32} (hi : i < 61) : TF E (sA h (t + 8) (nI i) x) t r g (up2 A 8 i x) ∧ FT h (sA h (t + 8) (nI i) x) t r := by
  obtain ⟨T, G, V⟩ := F
  obtain ⟨T1, F1⟩ := T.st (j := 8) (i := i) (x := x) (by omega) hi
  exact ⟨⟨T1, G.of (fun j hj => up2_ne (by omega)), fun y hy => by rw [up2_ne (by omega), up2_ne (by omega), up2_ne (by omega)]; exact V y hy⟩, F1⟩
theorem TF.sp {h' : Hp} (F : TF E h t r g A) (T : Tb E h' t r g A (nI (cN (Ps g) (nx g))) (nI (nx g)) (nI (stN g (nx g)))) : TF E h' t r g A := ⟨T, F.2.1, F.2.2⟩
theorem c_isFollowed {Q : Int32 → Hp → Prop} {x y k : Nat} (T : Tb E h t r g A a b c) (hk : k < 60) (hR : ∀ i, i ≤ k → A 8 i = nI (fol g x i) ∧ fol g x i < 2 ^ 31) (hy : y < 2 ^ 31) (hq : Q (bI ((List.range (k + 1)).any (fun i => fol g x i == y))) h) : OkI E YX6_isFollowed d [.ref t, .int (nI y), .int (nI k)] h Q := by
  refine rnX6_isFollowed (fun K2 k2 => ?_)
  have t8 := T.ln (j := 8) (by omega)
  refine lp_up (K := fun i => (List.range i).any (fun i => fol g x i == y) = false → K2 t (nI y) (nI k) (nI i) h) (k + 1) (fun i hi ih hf => ?_) (fun hf => ?_) 0 (Nat.zero_le _) rfl
  · refine k2 _ _ _ _ _ ?_
    have g8 := T.gt (j := 8) (i := i) (by omega) (by show i < 61; omega)
    simp only [vcX6_isFollowed_2, T.fs, true_and, t8, g8, nI_ltI (show k < 2 ^ 31 by omega) (show i < 2 ^ 31 by omega), nI_leI (show tln 8 < 2 ^ 31 by decide) (show i < 2 ^ 31 by omega)]
    refine ⟨fun q => absurd q (by omega), fun _ => ⟨fun q => absurd q (by show ¬ 61 ≤ i; omega), fun _ => ?_⟩⟩
    obtain ⟨r1, r2⟩ := hR i (by omega)
    rw [r1, nI_eq r2 hy, nI_1]
    refine ⟨fun q => ih ?_, fun q => ⟨Or.inr rfl, ?_⟩⟩
    · rw [List.range_succ, List.any_append, hf, Bool.false_or]; simp [q]
    · have : (List.range (k + 1)).any (fun i => fol g x i == y) = true := List.any_eq_true.mpr ⟨i, List.mem_range.mpr hi, by simp [q]⟩
      rw [this] at hq; exact hq
  · refine k2 _ _ _ _ _ ?_
    simp only [vcX6_isFollowed_2, T.fs, true_and, t8]
    rw [hf] at hq
    exact ⟨fun _ => ⟨Or.inl rfl, hq⟩, fun q => absurd (nI_lt (show k < k + 1 by omega) (by omega)) q⟩
theorem c_followBest {Q : Int32 → Hp → Prop} {x : Nat} (F : TF E h t r g A) (w : qF g) (v : qV g) (bd : bnd g) (hP : Ps g x = true) (hq : ∀ h' A', TF E h' t r g A' → FT h h' t r → lnc g x ≤ 60 → (∀ i, i ≤ lnc g x → A' 8 i = nI (fol g x i)) → Q (nI (lnc g x)) h') : OkI E YX6_followBest (d + 4) [.ref t, .int (nI x)] h Q := by
  refine rnX6_followBest (fun K9 k9 => ?_)
  have hnx := nx_le w
  obtain ⟨F1, f1⟩ := F.row (i := 0) (x := nI x) (by omega)
  have g0 := F.1.gt (j := 8) (i := 0) (by omega) (by decide)
  simp only [vcX6_followBest_0, F.1.fs, true_and]
  refine ⟨g0.1, fun h1 e1 => ?_⟩
  rw [show (0 : Int32) = nI 0 from rfl] at e1
  rw [← e1] at F1 f1
  clear e1
  refine lp_up (K := fun k => ∀ h' A', TF E h' t r g A' → FT h h' t r → (∀ i, i < k → gsO g x i = true) → (∀ i, i ≤ k → A' 8 i = nI (fol g x i)) → lnN g x (60 - k) k = lnc g x → K9 t (nI k) h') 60 (fun k hk ih h' A' F' f' S' R' L' => ?_) (fun h' A' F' f' S' R' L' => ?_) 0 (Nat.zero_le _) h1 _ F1 f1 (fun i hi => absurd hi (Nat.not_lt_zero _)) (fun i hi => ?_) rfl
  · refine k9 _ _ _ ?_
    have hS : ∀ i, i < k → (bst g (fol g x i)).isSome = true := fun i hi => by
      have := S' i hi
      unfold gsO at this
      simp only [Bool.and_eq_true] at this
      exact this.1
    have hPk := fol_Ps w hP k hS
    have g8 := F'.1.gt (j := 8) (i := k) (by omega) (by show k < 61; omega)
    rw [R' k (Nat.le_refl _)] at g8
    simp only [vcX6_followBest_9, F'.1.fs, true_and, g8, show (60 : Int32) = nI 60 from rfl, nI_leI (show 60 < 2 ^ 31 by omega) (show k < 2 ^ 31 by omega)]
    have stop : gsO g x k = false → Q (nI k) h' := fun e => by
      have : lnc g x = k := by
        rw [← L', show 60 - k = (59 - k) + 1 by omega, lnN, e, if_neg (by decide)]
      have := hq h' A' F' f' (by omega) (fun i hi => R' i (by omega))
      rw [show lnc g x = k by omega] at this
      exact this
    refine ⟨fun q => absurd q (by omega), fun _ => c_bestStep F' w v bd hPk ?_⟩
    have hbl : ∀ b, bst g (fol g x k) = some b → b < (mvs g (fol g x k)).length := fun b e => bsN_lt _ _ _ _ e
    have hml := mvs_le w (fol g x k)
    rw [(lxI_neg (fun i hi => by have := hbl i hi; omega)).2]
    cases hb : bst g (fol g x k) with
    | none =>
      refine ⟨fun q => (by cases q), fun _ => stop ?_⟩
      unfold gsO; rw [hb]; rfl
    | some b =>
      have hbk := hbl b hb
      refine ⟨fun _ => ?_, fun q => absurd rfl q⟩
      simp only [F'.1.fs, true_and, g8]
      refine c_stepOf F'.1 F'.2.1 w bd hPk hbk ⟨⟨_, F'.1.1⟩, ?_⟩
      have ef : fol g x (k + 1) = yO g (fol g x k) b := by rw [fol, hb]
      have hyP := yO_Ps w hPk hbk
      have hyx := Ps_lt hyP
      refine c_isFollowed (x := x) F'.1 hk (fun i hi => ⟨R' i hi, ?_⟩) (by omega) (bI_c (fun q => ?_) (fun q => stop ?_))
      · have := Ps_lt (fol_Ps w hP i (fun j hj => hS j (by omega)))
        omega
      · have hg : gsO g x k = true := by
          unfold gsO; rw [hb, ef, q]; rfl
        have g9 := F'.1.gt (j := 8) (i := k + 1) (by omega) (by show k + 1 < 61; omega)
        simp only [F'.1.fs, true_and, nI_1, g9]
        intro h7 e7
        obtain ⟨F7, f7⟩ := F'.row (i := k + 1) (x := nI (yO g (fol g x k) b)) (by omega)
        rw [← e7] at F7 f7
        clear e7
        refine ih h7 _ F7 (f'.tr f7) (fun i hi => ?_) (fun i hi => ?_) ?_
        · by_cases z : i = k
          · rw [z]; exact hg
          · exact S' i (by omega)
        · by_cases z : i = k + 1
          · rw [z, up2_at, ef]
          · rw [up2_o z]; exact R' i (by omega)
        · rw [← L', show 60 - k = (60 - (k + 1)) + 1 by omega, lnN, hg, if_pos rfl]
      · unfold gsO; rw [hb, ef, q]; rfl
  · refine k9 _ _ _ ?_
    refine ⟨fun _ => ?_, fun q => absurd (Int32.le_refl _) q⟩
    have e : lnc g x = 60 := by rw [← L']; rfl
    have := hq h' A' F' f' (by omega) (fun i hi => R' i (by omega))
    rw [e] at this; exact this
  · rw [show i = 0 by omega, up2_at]; rfl
theorem c_followed {Q : Int32 → Hp → Prop} {k : Nat} (T : Tb E h t r g A a b c) (hk : k < 61) (hq : Q (A 8 k) h) : OkI E YX6_followed d [.ref t, .int (nI k)] h Q := by
  refine rnX6_followed ?_
  have t8 := T.ln (j := 8) (by omega)
  have g8 := T.gt (j := 8) (i := k) (by omega) hk
  simp only [vcX6_followed_0, T.fs, true_and, t8, g8, nI_leI (show tln 8 < 2 ^ 31 by decide) (show k < 2 ^ 31 by omega)]
  exact ⟨fun q => absurd q (nI_pos (by omega)), fun _ => ⟨fun q => absurd q (by show ¬ 61 ≤ k; omega), fun _ => hq⟩⟩
theorem c_searched (w : qF g) (v : qV g) (bd : bnd g) : ∀ e x (h : Hp) (Q : Int32 → Hp → Prop), e ≤ 4 → TF E h t r g A → Ps g x = true → (∀ h', TF E h' t r g A → FT h h' t r → Q (srV g e x) h') → OkI E YX6_searched (d + e + 4) [.ref t, .int (nI x), .int (nI e)] h Q := by
  intro e
  induction e with
  | zero =>
    intro x h Q he F hP hq
    refine rnX6_searched (fun K30 k30 => ?_)
    rw [srV] at hq
    refine ⟨⟨_, F.1.1⟩, c_isEnd F.1 F.2.1 w hP (bI_c (fun q => ⟨fun _ => ?_, fun q2 => absurd (Int32.le_refl _) q2⟩) (fun q => ⟨⟨_, F.1.1⟩, c_endValue F.1 w hP (fun h1 T1 F1 => ?_)⟩))⟩
    · have := hq h F (FT.rfl h t r)
      rw [if_neg (by rw [q]; decide)] at this; exact this
    · have := hq h1 (F.sp T1) F1.ft
      rw [if_pos q] at this; exact this
  | succ e ih =>
    intro x h Q he F hP hq
    refine rnX6_searched (fun K30 k30 => ?_)
    rw [srV] at hq
    have hml := mvs_le w x
    refine ⟨⟨_, F.1.1⟩, c_isEnd (d := d + e + 2) F.1 F.2.1 w hP (bI_c (fun q => ?_) (fun q => ⟨⟨_, F.1.1⟩, c_endValue (d := d + e + 1) F.1 w hP (fun h1 T1 F1 => ?_)⟩))⟩
    · rw [if_neg (by rw [q]; decide)] at hq
      refine ⟨fun q2 => absurd q2 (nI_nle (by omega) (by omega)), fun _ => ⟨fun _ => ?_, fun q2 => absurd (nI_le (a := e + 1) (b := 4) he (by omega)) q2⟩⟩
      have hsl : (suc g x).length = (mvs g x).length := by unfold suc; rw [List.length_map]
      have hall : ∀ l : List Nat, ∀ y, y ∈ l → m1c (srV g e y) := fun l y _ => srV_c v e y
      refine lp_up (K := fun k => ∀ h', TF E h' t r g A → FT h h' t r → K30 t (nI x) (nI (e + 1)) (srL (srV g e) ((suc g x).take k)) (nI k) h') (mvs g x).length (fun k hk ihk h' F' f' => ?_) (fun h' F' f' => ?_) 0 (Nat.zero_le _) h F (FT.rfl h t r)
      · refine k30 _ _ _ _ _ _ ?_
        have hc := (fold_c ((suc g x).take k) (-1) (Or.inl rfl) (hall _)).1
        have hy := yO_Ps w hP hk
        refine ⟨fun q2 => ?_, fun _ => ⟨⟨_, F'.1.1⟩, c_stepsOf (d := d + e + 3) F'.1 F'.2.1 w hP ?_⟩⟩
        · have e1 : srL (srV g e) ((suc g x).take k) = 1 := by
            rcases hc with z | z | z
            · rw [show srL (srV g e) ((suc g x).take k) = -1 from z] at q2; exact absurd q2 (by decide)
            · rw [show srL (srV g e) ((suc g x).take k) = 0 from z] at q2; exact absurd q2 (by decide)
            · exact z
          have e2 : srL (srV g e) (suc g x) = 1 := by
            have : suc g x = (suc g x).take k ++ (suc g x).drop k := (List.take_append_drop k _).symm
            rw [this, srL, List.foldl_append]
            have e1' : List.foldl (fun a y => if -srV g e y ≤ a then a else -srV g e y) (-1) ((suc g x).take k) = 1 := e1
            rw [e1']
            exact (fold_c ((suc g x).drop k) 1 (Or.inr (Or.inr rfl)) (hall _)).2 rfl
          have := hq h' F' f'
          rw [e2] at this
          rw [e1]; exact this
        · rw [nI_leI (by omega) (by omega)]
          refine ⟨fun q2 => absurd q2 (by omega), fun _ => ⟨⟨_, F'.1.1⟩, c_stepOf (d := d + e + 2) F'.1 F'.2.1 w bd hP hk ?_⟩⟩
          rw [nI_pred]
          refine ih _ h' _ (by omega) F' hy (fun h6 F6 f6 => ?_)
          have := ihk h6 F6 (f'.tr f6)
          have hsk : (suc g x)[k]? = some (yO g x k) := by
            unfold suc
            rw [List.getElem?_map, List.getElem?_eq_getElem hk, yO_get (List.getElem?_eq_getElem hk)]; rfl
          rw [List.take_succ, hsk, srL, List.foldl_append] at this
          simp only [Option.toList, List.foldl_cons, List.foldl_nil] at this
          rw [← srL] at this
          rw [nI_1]
          have e3 : (if srL (srV g e) ((suc g x).take k) < -(srV g e (yO g x k)) then -(srV g e (yO g x k)) else srL (srV g e) ((suc g x).take k)) = if -(srV g e (yO g x k)) ≤ srL (srV g e) ((suc g x).take k) then srL (srV g e) ((suc g x).take k) else -(srV g e (yO g x k)) := by
            by_cases z : -(srV g e (yO g x k)) ≤ srL (srV g e) ((suc g x).take k)
            · rw [if_pos z, if_neg (Int32.not_lt.mpr z)]
            · rw [if_neg z, if_pos (Int32.not_le.mp z)]
          rw [e3]; exact this
      · refine k30 _ _ _ _ _ _ ?_
        have := hq h' F' f'
        rw [← hsl, List.take_length]
        exact ⟨fun _ => this, fun _ => ⟨⟨_, F'.1.1⟩, c_stepsOf (d := d + e + 3) F'.1 F'.2.1 w hP ⟨fun _ => this, fun q2 => absurd (by rw [hsl]; exact Int32.le_refl _) q2⟩⟩⟩
    · have := hq h1 (F.sp T1) F1.ft
      rw [if_pos q] at this; exact this
end
