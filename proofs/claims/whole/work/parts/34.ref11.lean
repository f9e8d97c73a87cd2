def mixE (g : Gm) (i x : Nat) : Int32 × Int32 × Bool := if x < i then Ld g 0 x else (0, -5, false)
def mixF (g : Gm) (i x : Nat) : Int32 × Bool := if x < i then Cv g 0 x else (-5, false)
theorem mixE_succ {g : Gm} {i : Nat} (h : Ld g 0 i = (0, -5, false)) : mixE g (i + 1) = mixE g i := by
  funext x
  unfold mixE
  by_cases c1 : x < i
  · rw [if_pos c1, if_pos (by omega)]
  · by_cases c2 : x = i
    · subst c2; rw [if_pos (by omega), if_neg c1, h]
    · rw [if_neg c1, if_neg (by omega)]
theorem mixF_succ {g : Gm} {i : Nat} (h : Cv g 0 i = (-5, false)) : mixF g (i + 1) = mixF g i := by
  funext x
  unfold mixF
  by_cases c1 : x < i
  · rw [if_pos c1, if_pos (by omega)]
  · by_cases c2 : x = i
    · subst c2; rw [if_pos (by omega), if_neg c1, h]
    · rw [if_neg c1, if_neg (by omega)]
theorem mixE_ne {g : Gm} {i x : Nat} (h : x ≠ i) : mixE g (i + 1) x = mixE g i x := by
  unfold mixE
  by_cases c1 : x < i
  · rw [if_pos c1, if_pos (by omega)]
  · rw [if_neg c1, if_neg (by omega)]
theorem mixF_ne {g : Gm} {i x : Nat} (h : x ≠ i) : mixF g (i + 1) x = mixF g i x := by
  unfold mixF
  by_cases c1 : x < i
  · rw [if_pos c1, if_pos (by omega)]
  · rw [if_neg c1, if_neg (by omega)]
theorem mixE_at (g : Gm) (i : Nat) : mixE g (i + 1) i = Ld g 0 i := by unfold mixE; rw [if_pos (by omega)]
theorem mixF_at (g : Gm) (i : Nat) : mixF g (i + 1) i = Cv g 0 i := by unfold mixF; rw [if_pos (by omega)]
def TE (A : Nat → Nat → Int32) (g : Gm) (i : Nat) : Prop := ∀ x, x < i → A 41 x = bI (Ps g x) ∧ A 42 x = 0 ∧ A 43 x = 0 ∧ A 44 x = 0 ∧ A 45 x = -5 ∧ A 46 x = -5
section
variable {E : Wd} {h0 h : Hp} {M : Nat} {A : Nat → Nat → Int32} {f : Nat → Int32} {g : Gm} {d : Nat}
theorem k_buildA {Q : Hp → Prop} {K217 : Nat → Int32 → Int32 → Hp → Prop} {K20 K103 : Nat → Int32 → Hp → Prop} {K197 : Nat → Int32 → Int32 → Hp → Prop}
    (k20 : ∀ (a0 : Nat) (x2 : Int32) h, vcX8_build_20 E (d + 7) K20 K103 K197 K217 a0 x2 h Q → K20 a0 x2 h)
    (w : qF g) (A0 : Nat → Nat → Int32) (hg : rA (A0 2) g) (hf : f 20 = nI (nx g))
    (hq : ∀ h' A', Rf E h0 h' M A' f → TE A' g (nx g) → FB A0 A' → K103 M 0 h') :
    ∀ i, i ≤ nx g → ∀ h' A', Rf E h0 h' M A' f → TE A' g i → FB A0 A' → K20 M (nI i) h' := by
  have hnx := nx_le w
  refine lp_up (K := fun i => ∀ h' A', Rf E h0 h' M A' f → TE A' g i → FB A0 A' → K20 M (nI i) h') (nx g) (fun i hi ih h' A' R' T' F' => ?_) (fun h' A' R' T' F' => ?_)
  · refine k20 _ _ _ ?_
    have rw2 := R'.rows (e := 0) (by omega)
    have rw3 : gW h' (M + 5) 0 = M + (6 + 0) ∧ okW E h' (M + 5) 0 := ⟨rw2.1, rw2.2.2.2.2.2.1⟩
    simp only [vcX8_build_20, R'.fs, true_and, hf, nI_leI (show nx g < 2 ^ 31 by omega) (show i < 2 ^ 31 by omega), rw3]
    refine ⟨fun c => absurd c (by omega), fun _ => ?_⟩
    refine k_decode (j := 6 + 0) R' (F'.g2 hg) w (Or.inl ⟨by omega, by omega⟩) (by omega) (fun h1 A1 R1 P1 E1 => ?_)
    have rw2 := R1.rows (e := 0) (by omega)
    have rw3 : gW h1 (M + 5) 0 = M + (6 + 0) ∧ okW E h1 (M + 5) 0 := ⟨rw2.1, rw2.2.2.2.2.2.1⟩
    have hg1 : rA (A1 2) g := by
      rw [show A1 2 = A' 2 from funext fun i => E1 2 i (by omega)]; exact F'.g2 hg
    simp only [R1.fs, true_and, rw3]
    refine ⟨by decide, ?_⟩
    rw [show (2 : Int32) = nI 2 from rfl, pk_rem (show i < 2 ^ 31 by omega) (by omega) (by omega)]
    refine k_isPossible (j := 6 + 0) R1 hg1 w (Or.inl ⟨by omega, by omega⟩) P1 (fun m _ => plc_le hi m) (by omega) ?_
    have hps : poss g (plc g i) (i % 2) = Ps g i := by rw [Ps, decide_eq_true hi, Bool.true_and]
    rw [hps]
    have hi' : i < 4394 := by omega
    simp only [R1.tb hi', true_and]
    refine ⟨bI_m _, fun h4 e4 => ?_⟩
    subst e4
    have R4 := R1.st (j := 41) (nI i) (bI (Ps g i)) rfl
    simp only [R4.fs, R4.tb hi', true_and]
    refine ⟨Or.inl rfl, fun h5 e5 => ?_⟩
    subst e5
    have R5 := R4.st (j := 42) (nI i) 0 rfl
    simp only [R5.fs, R5.tb hi', true_and]
    refine ⟨Or.inl rfl, fun h6 e6 => ?_⟩
    subst e6
    have R6 := R5.st (j := 43) (nI i) 0 rfl
    simp only [R6.fs, R6.tb hi', true_and]
    intro h7 e7
    subst e7
    have R7 := R6.st (j := 44) (nI i) 0 rfl
    simp only [R7.fs, R7.tb hi', true_and]
    intro h8 e8
    subst e8
    have R8 := R7.st (j := 45) (nI i) (-5) rfl
    simp only [R8.fs, R8.tb hi', true_and]
    intro h9 e9
    subst e9
    have R9 := R8.st (j := 46) (nI i) (-5) rfl
    rw [n_cl (n := i)] at R4 R5 R6 R7 R8 R9
    rw [nI_1]
    refine ih _ _ R9 (fun x hx => ?_) (fun j i' o1 o2 o3 => ?_)
    · by_cases c : x = i
      · subst c
        simp [up2]
      · have := T' x (by omega)
        simp only [up2, c, and_false, if_false]
        rw [E1 41 x (by omega), E1 42 x (by omega), E1 43 x (by omega), E1 44 x (by omega), E1 45 x (by omega), E1 46 x (by omega)]
        exact this
    · have q1 : j ≠ 41 := by omega
      have q2 : j ≠ 42 := by omega
      have q3 : j ≠ 43 := by omega
      have q4 : j ≠ 44 := by omega
      have q5 : j ≠ 45 := by omega
      have q6 : j ≠ 46 := by omega
      simp only [up2, q1, q2, q3, q4, q5, q6, false_and, if_false]
      rw [E1 j i' (by omega)]
      exact F' j i' o1 o2 o3
  · refine k20 _ _ _ ?_
    simp only [vcX8_build_20, R'.fs, true_and, hf]
    exact ⟨fun _ => hq h' A' R' T' F', fun c => absurd (nI_le (Nat.le_refl _) (by omega)) c⟩
theorem k_buildB {Q : Hp → Prop} {K217 : Nat → Int32 → Int32 → Hp → Prop} {K20 K103 : Nat → Int32 → Hp → Prop} {K197 : Nat → Int32 → Int32 → Hp → Prop}
    (k103 : ∀ (a0 : Nat) (x2 : Int32) h, vcX8_build_103 E (d + 7) K20 K103 K197 K217 a0 x2 h Q → K103 a0 x2 h)
    (w : qF g) (A0 : Nat → Nat → Int32) (hg : rA (A0 2) g) (hf : f 20 = nI (nx g))
    (hq : ∀ h' A', Rf E h0 h' M A' f → TB A' g (Ld g 0) → TC A' g (Cv g 0) → FB A0 A' → K197 M 1 1 h') :
    ∀ i, i ≤ nx g → ∀ h' A', Rf E h0 h' M A' f → TB A' g (mixE g i) → TC A' g (mixF g i) → FB A0 A' → K103 M (nI i) h' := by
  have hnx := nx_le w
  refine lp_up (K := fun i => ∀ h' A', Rf E h0 h' M A' f → TB A' g (mixE g i) → TC A' g (mixF g i) → FB A0 A' → K103 M (nI i) h') (nx g) (fun i hi ih h' A' R' T' Tc' F' => ?_) (fun h' A' R' T' Tc' F' => ?_)
  · refine k103 _ _ _ ?_
    have hi' : i < 4394 := by omega
    have tb := R'.tb hi'
    obtain ⟨t1, -⟩ := T' i hi
    simp only [vcX8_build_103, R'.fs, true_and, hf, nI_leI (show nx g < 2 ^ 31 by omega) (show i < 2 ^ 31 by omega), tb, t1]
    have same : Ld g 0 i = (0, -5, false) → Cv g 0 i = (-5, false) → ∀ h2 A2, Rf E h0 h2 M A2 f → TB A2 g (mixE g i) → TC A2 g (mixF g i) → FB A0 A2 → K103 M (nI i + 1) h2 := fun e1 e2 h2 A2 R2 T2 Tc2 F2 => by
      rw [nI_1]
      exact ih h2 A2 R2 (by rw [mixE_succ e1]; exact T2) (by rw [mixF_succ e2]; exact Tc2) F2
    refine ⟨fun c => absurd c (by omega), fun _ => bI_c (fun c => ?_) (fun c => ?_)⟩
    · exact same (by rw [Ld, c]; rfl) (by rw [Cv, c]; rfl) h' A' R' T' Tc' F'
    · have hpo : poss g (plc g i) (i % 2) = true := by simp only [Ps, Bool.and_eq_true] at c; exact c.2
      refine k_isEnd R' (F'.g2 hg) w hi hpo (fun h2 A2 R2 F2 => ?_)
      have T2 : TB A2 g (mixE g i) := fun x hx => by
        rw [F2.tab (by omega) (show 41 ≤ 41 by omega), F2.tab (by omega) (show 41 ≤ 42 by omega), F2.tab (by omega) (show 41 ≤ 44 by omega), F2.tab (by omega) (show 41 ≤ 45 by omega)]; exact T' x hx
      have Tc2 : TC A2 g (mixF g i) := fun x hx => by
        rw [F2.tab (by omega) (show 41 ≤ 43 by omega), F2.tab (by omega) (show 41 ≤ 46 by omega)]; exact Tc' x hx
      have FB2 : FB A0 A2 := fun j i' o1 o2 o3 => by rw [F2.2.2 j i' (by omega) o2]; exact F' j i' o1 o2 o3
      refine bI_c (fun c2 => ?_) (fun c2 => ?_)
      · exact same (by rw [Ld, c, c2]; rfl) (by rw [Cv, c, c2]; rfl) h2 A2 R2 T2 Tc2 FB2
      · have hL : Ld g 0 i = (endV g i, if endV g i = 0 then -5 else 0, true) := by rw [Ld, c, c2]; rfl
        have hC : Cv g 0 i = (if endV g i = 0 then -5 else 0, true) := by rw [Cv, c, c2, hL]; rfl
        simp only [R2.fs, true_and]
        rw [show (0 : Int32) = nI 0 from rfl]
        refine k_endValue (e := 0) R2 (FB2.g2 hg) w (by omega) hi hpo F2.2.1 ?_
        simp only [R2.tb hi', true_and]
        intro h5 e5
        subst e5
        have R5 := R2.st (j := 44) (nI i) (endV g i) rfl
        simp only [R5.fs, R5.tb hi', true_and]
        refine ⟨Or.inr rfl, fun h6 e6 => ?_⟩
        subst e6
        have R6 := R5.st (j := 42) (nI i) 1 rfl
        simp only [R6.fs, R6.tb hi', true_and]
        refine ⟨Or.inr rfl, fun h7 e7 => ?_⟩
        subst e7
        have R7 := R6.st (j := 43) (nI i) 1 rfl
        simp only [R7.fs, R7.tb hi', true_and]
        rw [n_cl (n := i)] at R5 R6 R7
        have hv : up2 (up2 (up2 A2 44 i (endV g i)) 42 i 1) 43 i 1 44 i = endV g i := by simp [up2]
        simp only [n_cl (n := i)] 
        rw [hv]
        have go : ∀ h7, Rf E h0 h7 M (up2 (up2 (up2 A2 44 i (endV g i)) 42 i 1) 43 i 1) f → ∀ r : Int32, r = (if endV g i = 0 then -5 else 0) → vcX8_build_174 E (d + 7) K20 K103 K197 K217 M (nI i) (M + 45) (nI i) r h7 Q := by
          intro h7 R7 r hr
          simp only [vcX8_build_174, R7.tb hi', true_and]
          intro h8 e8
          subst e8
          have R8 := R7.st (j := 45) (nI i) r rfl
          rw [n_cl (n := i)] at R8
          simp only [R8.fs, R8.tb hi', true_and]
          intro h9 e9
          subst e9
          have R9 := R8.st (j := 46) (nI i) (up2 (up2 (up2 (up2 A2 44 i (endV g i)) 42 i 1) 43 i 1) 45 i r 45 i) rfl
          rw [n_cl (n := i)] at R9
          rw [nI_1]
          refine ih _ _ R9 (fun x hx => ?_) (fun x hx => ?_) (fun j i' o1 o2 o3 => ?_)
          · by_cases c4 : x = i
            · subst c4
              rw [mixE_at, hL]
              have := (T2 x hx).1
              refine ⟨?_, ?_, ?_, ?_⟩
              · simpa [up2] using this
              · simp [up2, bI]
              · simp [up2]
              · simp [up2, hr]
            · rw [mixE_ne c4]
              have := T2 x hx
              simpa [up2, c4] using this
          · by_cases c4 : x = i
            · subst c4
              rw [mixF_at, hC]
              refine ⟨?_, ?_⟩
              · simp [up2, bI]
              · simp [up2, hr]
            · rw [mixF_ne c4]
              have := Tc2 x hx
              simpa [up2, c4] using this
          · have q2 : j ≠ 42 := by omega
            have q3 : j ≠ 43 := by omega
            have q4 : j ≠ 44 := by omega
            have q5 : j ≠ 45 := by omega
            have q6 : j ≠ 46 := by omega
            simp only [up2, q2, q3, q4, q5, q6, false_and, if_false]
            exact FB2 j i' o1 o2 o3
        exact ⟨fun c4 => go _ R7 _ (if_neg c4).symm, fun c4 => go _ R7 _ (if_pos c4).symm⟩
  · refine k103 _ _ _ ?_
    simp only [vcX8_build_103, R'.fs, true_and, hf]
    refine ⟨fun _ => hq h' A' R' (fun x hx => ?_) (fun x hx => ?_) F', fun c => absurd (nI_le (Nat.le_refl _) (by omega)) c⟩
    · have := T' x hx
      unfold mixE at this
      rw [if_pos hx] at this; exact this
    · have := Tc' x hx
      unfold mixF at this
      rw [if_pos hx] at this; exact this
theorem k_build {Q : Hp → Prop} (R : Rf E h0 h M A f) (hg : rA (A 2) g) (w : qF g) (v : qV g)
    (hq : ∀ h' A', Rf E h0 h' M A' (upd f 20 (nI (nx g))) → TB A' g (Lf g) → TC A' g (Cf g) → FB A A' → Q h') : OkV E YX8_build (d + 8) [.ref M] h Q := by
  refine rnX8_build (fun K20 K103 K197 K217 k20 k103 k197 k217 => ?_)
  have hnx := nx_le w
  refine ⟨⟨_, R.obj⟩, k_squares R hg ?_⟩
  simp only [R.fs, true_and]
  intro h3 e3
  simp only [n_lit1, n_lit2, nI_add, pk_mul] at e3
  subst e3
  have R3 := R.put (k := 20) (x := nI (nx g)) rfl
  have hf : upd f 20 (nI (nx g)) 20 = nI (nx g) := rfl
  rw [n_lit0]
  refine k_buildA k20 w A hg hf (fun h4 A4 R4 T4 F4 => ?_) 0 (Nat.zero_le _) _ _ R3 (fun x hx => absurd hx (Nat.not_lt_zero _)) (fun _ _ _ _ _ => rfl)
  refine k_buildB k103 w A hg hf (fun h5 A5 R5 T5 Tc5 F5 => ?_) 0 (Nat.zero_le _) _ _ R4 (fun x hx => ?_) (fun x hx => ?_) F4
  · refine k_levels (A := A5) k197 w v A hg hf (fun h6 A6 R6 T6 hj F6 => ?_) (nx g + 1) 0 (by omega) (fun k hk => absurd hk (Nat.not_lt_zero _)) _ _ true R5 T5 (fun c => Bool.noConfusion c) (fun _ _ => rfl) F5
    refine k_levelsC k217 w v A hg hf hq (nx g + 1) 0 (by omega) (fun k hk => absurd hk (Nat.not_lt_zero _)) _ _ true R6 T6 (fun x hx => ?_) (fun c => Bool.noConfusion c) F6
    rw [hj 43 (Or.inl rfl), hj 46 (Or.inr rfl)]
    exact Tc5 x hx
  · obtain ⟨u1, u2, u3, u4, u5, u6⟩ := T4 x hx
    unfold mixE
    rw [if_neg (by omega)]
    exact ⟨u1, u2, u4, u5⟩
  · obtain ⟨u1, u2, u3, u4, u5, u6⟩ := T4 x hx
    unfold mixF
    rw [if_neg (by omega)]
    exact ⟨u3, u6⟩
end
