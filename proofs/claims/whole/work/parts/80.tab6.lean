section
variable {g : Gm}
def chKC (g : Gm) (n x : Nat) : Bool := Ps g x && can g x == x && chc g n x
def fdC (g : Gm) (n i : Nat) : Bool := (List.range i).any (chKC g n)
theorem fdC_succ (n i : Nat) : fdC g n (i + 1) = (fdC g n i || chKC g n i) := by
  unfold fdC
  rw [List.range_succ, List.any_append]
  simp
theorem fdC_eq (w : qF g) (n : Nat) : fdC g n (nx g) = anyC g n (nx g) := by
  unfold fdC anyC
  rw [Bool.eq_iff_iff, List.any_eq_true, List.any_eq_true]
  constructor
  · rintro ⟨x, h1, h2⟩
    simp only [chKC, Bool.and_eq_true] at h2
    exact ⟨x, h1, h2.2⟩
  · rintro ⟨x, h1, h2⟩
    have hx := List.mem_range.mp h1
    refine ⟨can g x, List.mem_range.mpr (can_lt w hx), ?_⟩
    have hP : Ps g x = true := by
      cases hP : Ps g x with
      | true => rfl
      | false => unfold chc at h2; rw [Cv_no hP, Cv_no hP] at h2; exact absurd h2 (by decide)
    simp only [chKC, Bool.and_eq_true, beq_iff_eq]
    refine ⟨⟨by rw [Ps_can w hx]; exact hP, can_can w hx⟩, ?_⟩
    unfold chc at h2 ⊢
    rw [Cv_can w hx, Cv_can w hx]; exact h2
theorem Cv_lv' (w : qF g) {n : Nat} (h : ∀ k, k < n → anyC g k (nx g) = true) : n + 1 ≤ nx g := by
  have h1 : n ≤ cN (fun x => (Cv g n x).2) (nx g) := cN_lv (D := fun n x => (Cv g n x).2) (N := nx g) Cv_mono n (fun k hk => by
    obtain ⟨x, h1, h2⟩ := any_wit (h k hk)
    simp only [chc, Bool.and_eq_true, Bool.not_eq_true'] at h2
    exact ⟨x, h1, h2.1, h2.2⟩)
  have h2 := cN_less (D := fun x => (Cv g n x).2) (N := nx g) (by rw [Cv_no (Ps_0 w)]) nx_pos
  omega
theorem Cv_end {x : Nat} (hP : Ps g x = true) (he : (mvs g x).isEmpty = true) : ∀ n, (Cv g n x).2 = true
  | 0 => by rw [Cv, hP, he, if_pos (by decide)]
  | n + 1 => Cv_mono n x (Cv_end hP he n)
theorem Cv_same0 {n x : Nat} (hP : Ps g x = true) (h : (Lf g x).1 = 0) : Cv g (n + 1) x = Cv g n x := by
  cases he : (mvs g x).isEmpty with
  | true => exact Cv_keep (Cv_end hP he n)
  | false => exact Cv_und (und he 4394 h)
end
section
variable {E : Wd} {h : Hp} {t r : Nat} {g : Gm} {A : Nat → Nat → Int32} {a b c : Int32} {d : Nat}
theorem c_findConversions {Q : Int32 → Hp → Prop} {n : Nat} (T : Tb E h t r g A a (nI (nx g)) c) (G : Tg A g) (w : qF g) (v : qV g) (bd : bnd g) (V : TV A g (Lk g 4394)) (W : TW A g (Ck g n)) (hn : n < 2 ^ 29) (hq : ∀ h' A', Tb E h' t r g A' a (nI (nx g)) c → FT h h' t r → Tg A' g → TV A' g (Lk g 4394) → TW A' g (Ck g (n + 1)) → Q (bI (anyC g n (nx g))) h') : OkI E YX6_findConversions (d + 4) [.ref t, .int (nI (n + 1))] h Q := by
  refine rnX6_findConversions (fun K4 k4 => ?_)
  have hnx := nx_le w
  refine lp_up (K := fun i => ∀ h' A', Tb E h' t r g A' a (nI (nx g)) c → FT h h' t r → Tg A' g → TV A' g (Lk g 4394) → TW A' g (Cm g n i) → K4 t (nI (n + 1)) (bI (fdC g n i)) (nI i) h') (nx g) (fun i hi ih h' A' T' F' G' V' W' => ?_) (fun h' A' T' F' G' V' W' => ?_) 0 (Nat.zero_le _) h A T (FT.rfl h t r) G V (fun x hx => by unfold Cm; rw [if_neg (by omega)]; exact W x hx)
  · refine k4 _ _ _ _ _ ?_
    have t1 := (T'.tt (show i < 4394 by omega)).1
    have t3 := (T'.tt (show i < 4394 by omega)).2.2.1
    have t5 := (T'.tt (show i < 4394 by omega)).2.2.2.2
    rw [(G'.1 i hi).1] at t1
    have Wi : Cm g n i i = Ck g n i := by unfold Cm; rw [if_neg (by omega)]
    have w1 := W' i hi
    rw [Wi] at w1
    have same : Ck g (n + 1) i = Ck g n i → K4 t (nI (n + 1)) (bI (fdC g n i)) (nI (i + 1)) h' := fun e => by
      have hch : chKC g n i = false := by
        rw [Bool.eq_false_iff]
        intro q
        simp only [chKC, chc, Bool.and_eq_true, beq_iff_eq, Bool.not_eq_true'] at q
        unfold Ck at e
        rw [if_pos ⟨q.1.1, q.1.2⟩, if_pos ⟨q.1.1, q.1.2⟩] at e
        rw [e, q.2.1] at q
        exact absurd q.2.2 (by decide)
      have := ih h' A' T' F' G' V' (fun x hx => by
        have : Cm g n (i + 1) x = Cm g n i x := by
          unfold Cm
          by_cases z : x = i
          · subst z; rw [if_pos (by omega), if_neg (by omega), e]
          · by_cases z2 : x < i
            · rw [if_pos (by omega), if_pos z2]
            · rw [if_neg (by omega), if_neg z2]
        rw [this]; exact W' x hx)
      rw [fdC_succ, hch, Bool.or_false] at this
      exact this
    simp only [vcX6_findConversions_4, T'.fs, true_and, nI_leI (show nx g < 2 ^ 31 by omega) (show i < 2 ^ 31 by omega), t1, t3, t5, nI_1]
    refine ⟨fun q => absurd q (by omega), fun _ => ⟨fun q => same ?_, fun q => ?_⟩⟩
    · unfold Ck
      have : ¬ (Ps g i = true ∧ can g i = i) := fun z => q (by rw [if_pos z.1, z.2])
      rw [if_neg this, if_neg this]
    · have hP : Ps g i = true := by
        cases hP : Ps g i with
        | true => rfl
        | false =>
          rw [hP, if_neg (by decide)] at q
          exact absurd (show nI i < 0 by rw [← q]; decide) (nI_pos (by omega))
      rw [if_pos hP] at q
      have hc : can g i = i := by
        have hcl := can_lt w hi
        exact (nI_eq (by omega) (by omega)).mp q
      have eC : ∀ n, Ck g n i = Cv g n i := fun n => by unfold Ck; rw [if_pos ⟨hP, hc⟩]
      have v3 : A' 3 i = (Lf g i).1 := by
        have := (V' i hi).1
        unfold Lk at this
        rw [if_pos ⟨hP, hc⟩] at this
        exact this
      rw [eC] at w1
      rw [v3, w1]
      refine ⟨fun q2 => same (by rw [eC, eC]; exact Cv_same0 hP q2), fun q2 => ⟨fun q3 => ?_, fun q3 => same ?_⟩⟩
      · have h2 : (Cv g n i).2 = false := by
          cases hb : (Cv g n i).2 with
          | false => rfl
          | true => exact absurd q3 (Int32.not_lt.mpr (Cv_pos hP q2 n (by omega) hb))
        have he : (mvs g i).isEmpty = false := by
          rw [Bool.eq_false_iff]; intro z; rw [Cv_end hP z n] at h2; cases h2
        have hd : (Lf g i).2.2 = true := by
          rcases Ld_inv v 4394 i with ⟨z, -⟩ | ⟨-, z, -⟩
          · exact absurd z q2
          · exact z
        have hst := Cv_step hP hd h2
        refine c_isConverted T' G' w v bd V' W' hP hc q2 he hn (bI_c' (fun q4 => same ?_) (fun q4 => ?_))
        · rw [eC, eC, hst, q4, if_neg (by decide)]
        · rw [q4, if_pos rfl] at hst
          simp only [T'.fs, true_and, (T'.tt (show i < 4394 by omega)).2.2.2.2]
          intro h3 e3
          obtain ⟨T3, F3⟩ := T'.st (j := 5) (i := i) (x := nI (n + 1)) (by omega) (by show i < 4394; omega)
          rw [← e3] at T3 F3
          clear e3
          have hch : chKC g n i = true := by
            simp only [chKC, chc, Bool.and_eq_true, beq_iff_eq, Bool.not_eq_true']
            exact ⟨⟨hP, hc⟩, h2, by rw [hst]⟩
          have := ih h3 _ T3 (F'.tr F3) (G'.of (fun j hj => by rw [up2_ne (by omega)])) (fun x hx => by rw [up2_ne (by omega), up2_ne (by omega)]; exact V' x hx) (fun x hx => by
            by_cases z : x = i
            · subst z
              have : Cm g n (x + 1) x = (nI (n + 1), true) := by
                unfold Cm; rw [if_pos (by omega), eC, hst]
              rw [this, up2_at]
            · have : Cm g n (i + 1) x = Cm g n i x := by
                unfold Cm
                by_cases z2 : x < i
                · rw [if_pos (by omega), if_pos z2]
                · rw [if_neg (by omega), if_neg z2]
              rw [this, up2_o z]; exact W' x hx)
          rw [fdC_succ, hch, Bool.or_true] at this
          exact this
      · rw [eC, eC]
        refine Cv_keep ?_
        cases hb : (Cv g n i).2 with
        | true => rfl
        | false => rw [Cv_neg n hb] at q3; exact absurd (by decide) q3
  · refine k4 _ _ _ _ _ ?_
    simp only [vcX6_findConversions_4, T'.fs, true_and]
    refine ⟨fun _ => ⟨bI_m _, ?_⟩, fun q => absurd (nI_le (Nat.le_refl _) (by omega)) q⟩
    rw [fdC_eq w]
    exact hq h' A' T' F' G' V' (fun x hx => by have := W' x hx; unfold Cm at this; rw [if_pos hx] at this; exact this)
/-- the values and distances of all positions -/
def Tv (A : Nat → Nat → Int32) (g : Gm) (n : Nat) : Prop := ∀ x, x < n → A 3 x = val g x ∧ A 4 x = tE g x ∧ A 5 x = tC g x
theorem c_share {Q : Hp → Prop} (T : Tb E h t r g A a (nI (nx g)) c) (G : Tg A g) (w : qF g) (V : TV A g (Lk g 4394)) (W : TW A g (Ck g 4394)) (hq : ∀ h' A', Tb E h' t r g A' a (nI (nx g)) c → FT h h' t r → Tg A' g → Tv A' g (nx g) → Q h') : OkV E YX6_shareWithImages (d + 2) [.ref t] h Q := by
  refine rnX6_shareWithImages (fun K2 k2 => ?_)
  have hnx := nx_le w
  -- what holds of a canonical place at all times
  have canon : ∀ (A' : Nat → Nat → Int32) (i : Nat), (∀ x, x < i → A' 3 x = val g x ∧ A' 4 x = tE g x ∧ A' 5 x = tC g x) → (∀ x, i ≤ x → x < nx g → A' 3 x = A 3 x ∧ A' 4 x = A 4 x ∧ A' 5 x = A 5 x) → ∀ x, x < nx g → Ps g x = true → A' 3 (can g x) = val g x ∧ A' 4 (can g x) = tE g x ∧ A' 5 (can g x) = tC g x := fun A' i h1 h2 x hx hP => by
    have hc := can_lt w hx
    have e1 : Lf g (can g x) = Lf g x := Ld_can w hx 4394
    have e2 : Cf g (can g x) = Cf g x := Cv_can w hx 4394
    by_cases q : can g x < i
    · obtain ⟨a1, a2, a3⟩ := h1 _ q
      exact ⟨by rw [a1]; show (Lf g _).1 = (Lf g x).1; rw [e1], by rw [a2]; show (Lf g _).2.1 = (Lf g x).2.1; rw [e1], by rw [a3]; show (Cf g _).1 = (Cf g x).1; rw [e2]⟩
    · obtain ⟨a1, a2, a3⟩ := h2 _ (by omega) hc
      obtain ⟨b1, b2⟩ := V _ hc
      have b3 := W _ hc
      unfold Lk at b1 b2
      unfold Ck at b3
      have hPc : Ps g (can g x) = true ∧ can g (can g x) = can g x := ⟨by rw [Ps_can w hx]; exact hP, can_can w hx⟩
      rw [if_pos hPc] at b1 b2 b3
      exact ⟨by rw [a1, b1]; show (Lf g _).1 = (Lf g x).1; rw [e1], by rw [a2, b2]; show (Lf g _).2.1 = (Lf g x).2.1; rw [e1], by rw [a3, b3]; show (Cf g _).1 = (Cf g x).1; rw [e2]⟩
  refine lp_up (K := fun i => ∀ h' A', Tb E h' t r g A' a (nI (nx g)) c → FT h h' t r → Tg A' g → (∀ x, x < i → A' 3 x = val g x ∧ A' 4 x = tE g x ∧ A' 5 x = tC g x) → (∀ x, i ≤ x → x < nx g → A' 3 x = A 3 x ∧ A' 4 x = A 4 x ∧ A' 5 x = A 5 x) → K2 t (nI i) h') (nx g) (fun i hi ih h' A' T' F' G' P' R' => ?_) (fun h' A' T' F' G' P' R' => ?_) 0 (Nat.zero_le _) h A T (FT.rfl h t r) G (fun x hx => absurd hx (Nat.not_lt_zero _)) (fun x _ _ => ⟨rfl, rfl, rfl⟩)
  · refine k2 _ _ _ ?_
    have t1 := (T'.tt (show i < 4394 by omega)).1
    rw [(G'.1 i hi).1] at t1
    simp only [vcX6_shareWithImages_2, T'.fs, true_and, nI_leI (show nx g < 2 ^ 31 by omega) (show i < 2 ^ 31 by omega), t1]
    refine ⟨fun q => absurd q (by omega), fun _ => ?_⟩
    cases hP : Ps g i with
    | false =>
      rw [if_neg (by decide), nI_1]
      refine ⟨fun q => absurd q (by decide), fun _ => ih h' A' T' F' G' (fun x hx => ?_) (fun x h1 h2 => R' x (by omega) h2)⟩
      by_cases z : x = i
      · subst z
        obtain ⟨a1, a2, a3⟩ := R' x (Nat.le_refl _) hi
        obtain ⟨b1, b2⟩ := V _ hi
        have b3 := W _ hi
        unfold Lk at b1 b2
        unfold Ck at b3
        have nP : ¬ (Ps g x = true ∧ can g x = x) := fun q => by rw [hP] at q; cases q.1
        rw [if_neg nP] at b1 b2 b3
        rw [Ld_no hP] at b1 b2
        rw [Cv_no hP] at b3
        have c1 : Lf g x = (0, -5, false) := Ld_no hP _
        have c2 : Cf g x = (-5, false) := Cv_no hP _
        exact ⟨by rw [a1, b1]; show _ = (Lf g x).1; rw [c1], by rw [a2, b2]; show _ = (Lf g x).2.1; rw [c1], by rw [a3, b3]; show _ = (Cf g x).1; rw [c2]⟩
      · exact P' x (by omega)
    | true =>
      rw [if_pos rfl]
      have hcl := can_lt w hi
      refine ⟨fun _ => ?_, fun q => absurd (nI_pos' (by omega)) q⟩
      obtain ⟨k1, k2', k3⟩ := canon A' i P' R' i hi hP
      refine c_valueOf T' w hcl ?_
      rw [k1]
      refine ⟨(T'.tt (show i < 4394 by omega)).2.2.1.1, fun h3 e3 => ?_⟩
      obtain ⟨T3, F3⟩ := T'.st (j := 3) (i := i) (x := val g i) (by omega) (by show i < 4394; omega)
      rw [← e3] at T3 F3
      clear e3
      simp only [T3.fs, true_and]
      refine c_toEndOf T3 w hcl ?_
      rw [up2_ne (by omega), k2']
      refine ⟨(T3.tt (show i < 4394 by omega)).2.2.2.1.1, fun h6 e6 => ?_⟩
      obtain ⟨T6, F6⟩ := T3.st (j := 4) (i := i) (x := tE g i) (by omega) (by show i < 4394; omega)
      rw [← e6] at T6 F6
      clear e6
      simp only [T6.fs, true_and]
      refine c_toConversionOf T6 w hcl ?_
      rw [up2_ne (by omega), up2_ne (by omega), k3]
      refine ⟨(T6.tt (show i < 4394 by omega)).2.2.2.2.1, fun h9 e9 => ?_⟩
      obtain ⟨T9, F9⟩ := T6.st (j := 5) (i := i) (x := tC g i) (by omega) (by show i < 4394; omega)
      rw [← e9] at T9 F9
      clear e9
      rw [nI_1]
      refine ih h9 _ T9 (((F'.tr F3).tr F6).tr F9) (G'.of (fun j hj => by rw [up2_ne (by omega), up2_ne (by omega), up2_ne (by omega)])) (fun x hx => ?_) (fun x h1 h2 => ?_)
      · by_cases z : x = i
        · subst z
          refine ⟨?_, ?_, ?_⟩
          · rw [up2_ne (by omega), up2_ne (by omega), up2_at]
          · rw [up2_ne (by omega), up2_at]
          · rw [up2_at]
        · rw [up2_o z, up2_o z, up2_o z, up2_o z, up2_o z, up2_o z, up2_o z, up2_o z, up2_o z]; exact P' x (by omega)
      · have z : x ≠ i := by omega
        rw [up2_o z, up2_o z, up2_o z, up2_o z, up2_o z, up2_o z, up2_o z, up2_o z, up2_o z]; exact R' x (by omega) h2
  · refine k2 _ _ _ ?_
    simp only [vcX6_shareWithImages_2, T'.fs, true_and]
    exact ⟨fun _ => hq h' A' T' F' G' P', fun q => absurd (nI_le (Nat.le_refl _) (by omega)) q⟩
end
