def cN (D : Nat → Bool) : Nat → Nat
  | 0 => 0
  | i + 1 => cN D i + (if D i = true then 1 else 0)
theorem cN_le (D : Nat → Bool) : ∀ N, cN D N ≤ N
  | 0 => Nat.le_refl _
  | i + 1 => by
    have := cN_le D i
    rw [cN]
    split <;> omega
theorem cN_mono {D D' : Nat → Bool} (h : ∀ x, D x = true → D' x = true) : ∀ N, cN D N ≤ cN D' N
  | 0 => Nat.le_refl _
  | i + 1 => by
    have := cN_mono h i
    rw [cN, cN]
    by_cases c : D i = true
    · rw [if_pos c, if_pos (h i c)]; omega
    · rw [if_neg c]; omega
theorem cN_lt {D D' : Nat → Bool} (h : ∀ x, D x = true → D' x = true) {x : Nat} (h1 : D x = false) (h2 : D' x = true) : ∀ N, x < N → cN D N + 1 ≤ cN D' N
  | 0, hx => absurd hx (Nat.not_lt_zero _)
  | i + 1, hx => by
    rw [cN, cN]
    by_cases c : x = i
    · subst c
      have := cN_mono h x
      rw [if_pos h2, if_neg (by rw [h1]; decide)]; omega
    · have := cN_lt h h1 h2 i (by omega)
      by_cases c : D i = true
      · rw [if_pos c, if_pos (h i c)]; omega
      · rw [if_neg c]; omega
theorem cN_lv {D : Nat → Nat → Bool} (h : ∀ n x, D n x = true → D (n + 1) x = true) {N : Nat} : ∀ n, (∀ k, k < n → ∃ x, x < N ∧ D k x = false ∧ D (k + 1) x = true) → n ≤ cN (D n) N
  | 0, _ => Nat.zero_le _
  | n + 1, q => by
    have := cN_lv h n (fun k hk => q k (by omega))
    obtain ⟨x, h1, h2, h3⟩ := q n (by omega)
    have := cN_lt (h n) h2 h3 N h1
    omega
theorem Ld_mono {g : Gm} (n x : Nat) (h : (Ld g n x).2.2 = true) : (Ld g (n + 1) x).2.2 = true := by
  rw [Ld, h, Bool.not_true, Bool.and_false, if_neg (by decide), h]
theorem Cv_mono {g : Gm} (n x : Nat) (h : (Cv g n x).2 = true) : (Cv g (n + 1) x).2 = true := by
  rw [Cv, h, Bool.not_true, Bool.and_false, if_neg (by decide), h]
theorem Ld_stop {g : Gm} {n : Nat} (h : anyN g n (nx g) = false) : Ld g (n + 1) = Ld g n := by
  funext x
  by_cases c1 : (Ps g x && !(Ld g n x).2.2) = true
  · have c2 : x < nx g := by
      simp only [Ps, Bool.and_eq_true, decide_eq_true_eq] at c1; exact c1.1.1
    have c3 : chg g n x = false := by
      unfold anyN at h
      rw [List.any_eq_false] at h
      simpa using h x (List.mem_range.mpr c2)
    have c4 : (Ld g (n + 1) x).2.2 = false := by
      unfold chg at c3
      rw [c1, Bool.true_and] at c3; exact c3
    simp only [Bool.and_eq_true, Bool.not_eq_true'] at c1
    have c5 : (Ld g n x).2.2 = false := c1.2
    have c6 : Ld g n x = (0, -5, false) := by
      cases n with
      | zero =>
        rw [Ld] at c5 ⊢
        by_cases q : (Ps g x && (mvs g x).isEmpty) = true
        · rw [if_pos q] at c5; cases c5
        · rw [if_neg q]
      | succ n =>
        have lem : ∀ n, (Ld g n x).2.2 = false → Ld g n x = (0, -5, false) := by
          intro n
          induction n with
          | zero =>
            intro c5
            rw [Ld] at c5 ⊢
            by_cases q : (Ps g x && (mvs g x).isEmpty) = true
            · rw [if_pos q] at c5; cases c5
            · rw [if_neg q]
          | succ n ih =>
            intro c5
            rw [Ld] at c5 ⊢
            by_cases q : (Ps g x && !(Ld g n x).2.2) = true
            · rw [if_pos q] at c5 ⊢
              by_cases q1 : (suc g x).any (fun y => (Ld g n y).1 == -1) = true
              · rw [if_pos q1] at c5; cases c5
              · rw [if_neg q1] at c5 ⊢
                by_cases q2 : (suc g x).all (fun y => (Ld g n y).1 == 1) = true
                · rw [if_pos q2] at c5; cases c5
                · rw [if_neg q2]
            · rw [if_neg q] at c5 ⊢
              exact ih c5
        exact lem (n + 1) c5
    rw [Ld, c1.1, c5] at c4 ⊢
    rw [c6]
    rw [if_pos (by decide)] at c4 ⊢
    by_cases q1 : (suc g x).any (fun y => (Ld g n y).1 == -1) = true
    · rw [if_pos q1] at c4; cases c4
    · rw [if_neg q1] at c4 ⊢
      by_cases q2 : (suc g x).all (fun y => (Ld g n y).1 == 1) = true
      · rw [if_pos q2] at c4; cases c4
      · rw [if_neg q2]
  · rw [Ld, if_neg c1]
theorem Ld_dec (g : Gm) (n x : Nat) : (Ld g (n + 1) x).2.2 = if Ps g x && !(Ld g n x).2.2 then (suc g x).any (fun y => (Ld g n y).1 == -1) || (suc g x).all (fun y => (Ld g n y).1 == 1) else (Ld g n x).2.2 := by
  rw [Ld]
  by_cases c : (Ps g x && !(Ld g n x).2.2) = true
  · rw [if_pos c, if_pos c]
    by_cases q1 : (suc g x).any (fun y => (Ld g n y).1 == -1) = true
    · rw [if_pos q1, q1]; rfl
    · rw [if_neg q1]
      by_cases q2 : (suc g x).all (fun y => (Ld g n y).1 == 1) = true
      · rw [if_pos q2, q2, Bool.or_true]
      · rw [if_neg q2, show (suc g x).any (fun y => (Ld g n y).1 == -1) = false by simpa using q1, show (suc g x).all (fun y => (Ld g n y).1 == 1) = false by simpa using q2]; rfl
  · rw [if_neg c, if_neg c]
theorem anyN_congr {g : Gm} {m n : Nat} (e : Ld g m = Ld g n) (N : Nat) : anyN g m N = anyN g n N := by
  unfold anyN
  congr 1
  funext x
  unfold chg
  rw [Ld_dec, Ld_dec, e]
theorem Ld_fix {g : Gm} {n : Nat} (h : anyN g n (nx g) = false) : ∀ m, n ≤ m → Ld g m = Ld g n
  | 0, hm => by rw [show n = 0 by omega]
  | m + 1, hm => by
    by_cases c : n = m + 1
    · rw [c]
    · have := Ld_fix h m (by omega)
      rw [← this]
      exact Ld_stop (by rw [anyN_congr this]; exact h)
theorem Cv_stop {g : Gm} {n : Nat} (h : anyC g n (nx g) = false) : Cv g (n + 1) = Cv g n := by
  funext x
  rw [Cv]
  by_cases c1 : (Ps g x && (Lf g x).2.2 && !(Cv g n x).2) = true
  · have c0 := c1
    simp only [Bool.and_eq_true, Bool.not_eq_true'] at c1
    have c2 : x < nx g := by
      have := c1.1.1
      simp only [Ps, Bool.and_eq_true, decide_eq_true_eq] at this; exact this.1
    have c3 : chc g n x = false := by
      unfold anyC at h
      rw [List.any_eq_false] at h
      simpa using h x (List.mem_range.mpr c2)
    rw [if_pos c0]
    unfold chc at c3
    rw [c1.2, Bool.not_false, Bool.true_and, Cv, if_pos c0] at c3
    by_cases c4 : (if (Lf g x).1 == 1 then (mvs g x).any (fun v => (now g v || (Cv g n v.2.2.2).2) && (Lf g v.2.2.2).1 == -1) else (mvs g x).all (fun v => now g v || (Cv g n v.2.2.2).2)) = true
    · rw [if_pos c4] at c3; cases c3
    · rw [if_neg c4]
  · rw [if_neg c1]
theorem Cv_dec (g : Gm) (n x : Nat) : (Cv g (n + 1) x).2 = if Ps g x && (Lf g x).2.2 && !(Cv g n x).2 then ((if (Lf g x).1 == 1 then (mvs g x).any (fun v => (now g v || (Cv g n v.2.2.2).2) && (Lf g v.2.2.2).1 == -1) else (mvs g x).all (fun v => now g v || (Cv g n v.2.2.2).2)) || (Cv g n x).2) else (Cv g n x).2 := by
  rw [Cv]
  by_cases c : (Ps g x && (Lf g x).2.2 && !(Cv g n x).2) = true
  · rw [if_pos c, if_pos c]
    by_cases q1 : (if (Lf g x).1 == 1 then (mvs g x).any (fun v => (now g v || (Cv g n v.2.2.2).2) && (Lf g v.2.2.2).1 == -1) else (mvs g x).all (fun v => now g v || (Cv g n v.2.2.2).2)) = true
    · rw [if_pos q1, q1]; rfl
    · rw [if_neg q1, Bool.eq_false_iff.mpr q1, Bool.false_or]
  · rw [if_neg c, if_neg c]
theorem anyC_congr {g : Gm} {m n : Nat} (e : Cv g m = Cv g n) (N : Nat) : anyC g m N = anyC g n N := by
  unfold anyC
  congr 1
  funext x
  unfold chc
  rw [Cv_dec, Cv_dec, e]
theorem Cv_fix {g : Gm} {n : Nat} (h : anyC g n (nx g) = false) : ∀ m, n ≤ m → Cv g m = Cv g n
  | 0, hm => by rw [show n = 0 by omega]
  | m + 1, hm => by
    by_cases c : n = m + 1
    · rw [c]
    · have := Cv_fix h m (by omega)
      rw [← this]
      exact Cv_stop (by rw [anyC_congr this]; exact h)
theorem any_wit {p : Nat → Bool} {N : Nat} (h : (List.range N).any p = true) : ∃ x, x < N ∧ p x = true := by
  rw [List.any_eq_true] at h
  obtain ⟨x, h1, h2⟩ := h
  exact ⟨x, List.mem_range.mp h1, h2⟩
theorem Ld_lv {g : Gm} {n : Nat} (h : ∀ k, k < n → anyN g k (nx g) = true) : n ≤ nx g := by
  have := cN_lv (D := fun n x => (Ld g n x).2.2) (N := nx g) Ld_mono n (fun k hk => by
    obtain ⟨x, h1, h2⟩ := any_wit (h k hk)
    simp only [chg, Bool.and_eq_true, Bool.not_eq_true'] at h2
    exact ⟨x, h1, h2.1.2, h2.2⟩)
  have := cN_le (fun x => (Ld g n x).2.2) (nx g)
  omega
theorem Cv_lv {g : Gm} {n : Nat} (h : ∀ k, k < n → anyC g k (nx g) = true) : n ≤ nx g := by
  have := cN_lv (D := fun n x => (Cv g n x).2) (N := nx g) Cv_mono n (fun k hk => by
    obtain ⟨x, h1, h2⟩ := any_wit (h k hk)
    simp only [chc, Bool.and_eq_true, Bool.not_eq_true'] at h2
    exact ⟨x, h1, h2.1, h2.2⟩)
  have := cN_le (fun x => (Cv g n x).2) (nx g)
  omega
def Cf (g : Gm) (x : Nat) : Int32 × Bool := Cv g 4394 x
def FB (A A' : Nat → Nat → Int32) : Prop := ∀ j i, j ≠ 6 → offM 0 j i → ¬ (41 ≤ j ∧ j < 47) → A' j i = A j i
theorem FB.g2 {A A' : Nat → Nat → Int32} {g : Gm} (F : FB A A') (hg : rA (A 2) g) : rA (A' 2) g := by
  have : A' 2 = A 2 := funext fun i => F 2 i (by omega) ⟨by omega, by omega, by omega, by omega, by omega⟩ (by omega)
  rw [this]; exact hg
theorem FD.fb {A A' : Nat → Nat → Int32} (F : FD A A') : FB A A' := fun j i o1 o2 o3 => F j i o1 o2 (by omega) (by omega) (by omega)
theorem FC.fb {A A' : Nat → Nat → Int32} (F : FC A A') : FB A A' := fun j i o1 o2 o3 => F j i o1 o2 (by omega) (by omega)
theorem FB.tr {A A' A'' : Nat → Nat → Int32} (F : FB A A') (G : FB A' A'') : FB A A'' := fun j i o1 o2 o3 => (G j i o1 o2 o3).trans (F j i o1 o2 o3)
section
variable {E : Wd} {h0 h : Hp} {M : Nat} {A : Nat → Nat → Int32} {f : Nat → Int32} {g : Gm} {d : Nat}
theorem k_levels {Q : Hp → Prop} {K217 : Nat → Int32 → Int32 → Hp → Prop} {K20 K103 : Nat → Int32 → Hp → Prop} {K197 : Nat → Int32 → Int32 → Hp → Prop}
    (k197 : ∀ (a0 : Nat) (x2 : Int32) (x3 : Int32) h, vcX8_build_197 E (d + 7) K20 K103 K197 K217 a0 x2 x3 h Q → K197 a0 x2 x3 h)
    (w : qF g) (v : qV g) (A0 : Nat → Nat → Int32) (hg : rA (A0 2) g) (hf : f 20 = nI (nx g))
    (hq : ∀ h' A', Rf E h0 h' M A' f → TB A' g (Lf g) → (∀ j, j = 43 ∨ j = 46 → A' j = A j) → FB A0 A' → K217 M 1 1 h') :
    ∀ r n, n + r = nx g + 1 → (∀ k, k < n → anyN g k (nx g) = true) → ∀ h' A' b, Rf E h0 h' M A' f → TB A' g (Ld g n) → (b = false → Ld g n = Lf g) → (∀ j, j = 43 ∨ j = 46 → A' j = A j) → FB A0 A' → K197 M (bI b) (nI (n + 1)) h'
  | 0, n, e, hk, _, _, _, _, _, _, _, _ => by have := Ld_lv hk; omega
  | r + 1, n, e, hk, h', A', b, R, T, hb, hj, F => by
    have hnx := nx_le w
    refine k197 _ _ _ _ (bI_c (fun c => ?_) (fun c => ?_))
    · exact hq h' A' R (by rw [← hb c]; exact T) hj F
    · refine ⟨⟨_, R.obj⟩, k_decide R (F.g2 hg) w v hf T (by omega) (fun h2 A2 R2 T2 F2 => ?_)⟩
      have hj2 : ∀ j, j = 43 ∨ j = 46 → A2 j = A j := fun j o => by
        rw [← hj j o]
        exact funext fun i => F2 j i (by omega) ⟨by omega, by omega, by omega, by omega, by omega⟩ (by omega) (by omega) (by omega)
      have F3 := F.tr F2.fb
      rw [nI_1]
      cases ha : anyN g n (nx g) with
      | false =>
        have e1 := Ld_stop ha
        have e2 : Ld g (n + 1) = Lf g := by
          have := Ld_fix ha 4394 (by have := Ld_lv hk; omega)
          rw [e1, ← this]; rfl
        refine k197 _ _ _ _ (bI_c (fun _ => ?_) (fun c => Bool.noConfusion c))
        exact hq h2 A2 R2 (by rw [← e2]; exact T2) hj2 F3
      | true =>
        refine k_levels k197 w v A0 hg hf hq r (n + 1) (by omega) (fun k hk' => ?_) h2 A2 true R2 T2 (fun c => Bool.noConfusion c) hj2 F3
        by_cases q : k = n
        · rw [q]; exact ha
        · exact hk k (by omega)
theorem k_levelsC {Q : Hp → Prop} {K217 : Nat → Int32 → Int32 → Hp → Prop} {K20 K103 : Nat → Int32 → Hp → Prop} {K197 : Nat → Int32 → Int32 → Hp → Prop}
    (k217 : ∀ (a0 : Nat) (x2 : Int32) (x3 : Int32) h, vcX8_build_217 E (d + 7) K20 K103 K197 K217 a0 x2 x3 h Q → K217 a0 x2 x3 h)
    (w : qF g) (v : qV g) (A0 : Nat → Nat → Int32) (hg : rA (A0 2) g) (hf : f 20 = nI (nx g))
    (hq : ∀ h' A', Rf E h0 h' M A' f → TB A' g (Lf g) → TC A' g (Cf g) → FB A0 A' → Q h') :
    ∀ r n, n + r = nx g + 1 → (∀ k, k < n → anyC g k (nx g) = true) → ∀ h' A' b, Rf E h0 h' M A' f → TB A' g (Lf g) → TC A' g (Cv g n) → (b = false → Cv g n = Cf g) → FB A0 A' → K217 M (bI b) (nI (n + 1)) h'
  | 0, n, e, hk, _, _, _, _, _, _, _, _ => by have := Cv_lv hk; omega
  | r + 1, n, e, hk, h', A', b, R, T, TC', hb, F => by
    have hnx := nx_le w
    refine k217 _ _ _ _ (bI_c (fun c => ?_) (fun c => ?_))
    · exact hq h' A' R T (by rw [← hb c]; exact TC') F
    · refine ⟨⟨_, R.obj⟩, k_convert R (F.g2 hg) w v hf T TC' (by omega) (fun h2 A2 R2 T2 Tc2 F2 => ?_)⟩
      have F3 := F.tr F2.fb
      rw [nI_1]
      cases ha : anyC g n (nx g) with
      | false =>
        have e1 := Cv_stop ha
        have e2 : Cv g (n + 1) = Cf g := by
          have := Cv_fix ha 4394 (by have := Cv_lv hk; omega)
          rw [e1, ← this]; rfl
        refine k217 _ _ _ _ (bI_c (fun _ => ?_) (fun c => Bool.noConfusion c))
        exact hq h2 A2 R2 T2 (by rw [← e2]; exact Tc2) F3
      | true =>
        refine k_levelsC k217 w v A0 hg hf hq r (n + 1) (by omega) (fun k hk' => ?_) h2 A2 true R2 T2 Tc2 (fun c => Bool.noConfusion c) F3
        by_cases q : k = n
        · rw [q]; exact ha
        · exact hk k (by omega)
end
