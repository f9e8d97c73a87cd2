def FL (A A' : Nat → Nat → Int32) : Prop := ∀ j, (j = 1 ∨ j = 2 ∨ j = 4 ∨ (41 ≤ j ∧ j < 53)) → (j ≠ 47 ∧ j ≠ 48) → A' j = A j
theorem gsO_step {g : Gm} {x k : Nat} (h : gsO g x k = true) : (bst g (fol g x k)).isSome = true := by
  unfold gsO at h
  simp only [Bool.and_eq_true] at h
  exact h.1
theorem lnN_all {g : Gm} {x : Nat} : ∀ r k, ∀ i, k ≤ i → i < lnN g x r k → gsO g x i = true
  | 0, k, i, h1, h2 => by rw [lnN] at h2; omega
  | r + 1, k, i, h1, h2 => by
    rw [lnN] at h2
    by_cases c : gsO g x k = true
    · rw [if_pos c] at h2
      by_cases e : i = k
      · rw [e]; exact c
      · exact lnN_all r (k + 1) i (by omega) h2
    · rw [if_neg c] at h2; omega
theorem lnN_le {g : Gm} {x : Nat} : ∀ r k, k ≤ lnN g x r k ∧ lnN g x r k ≤ k + r
  | 0, k => ⟨Nat.le_refl _, Nat.le_refl _⟩
  | r + 1, k => by
    rw [lnN]
    by_cases c : gsO g x k = true
    · rw [if_pos c]
      have := lnN_le (g := g) (x := x) r (k + 1)
      omega
    · rw [if_neg c]; omega
section
variable {E : Wd} {h0 h : Hp} {M : Nat} {A : Nat → Nat → Int32} {f : Nat → Int32} {g : Gm} {d : Nat} {s : Sg}
theorem k_findLine {Q : Int32 → Hp → Prop} (R : Rf E h0 h M A f) (S : RS A f s) (hg : sG s = some g) (c : pN (sP s) ≠ 0) (hP : Ps g (pHe (sP s)) = true)
    (hq : ∀ h' A', Rf E h0 h' M A' f → FS A A' → (∀ i, i ≤ lnc g (pHe (sP s)) → A' 53 i = nI (fol g (pHe (sP s)) i)) → Q (nI (lnc g (pHe (sP s)))) h') : OkI E YX8_findLine (d + 8) [.ref M] h Q := by
  refine rnX8_findLine (fun K14 K66 k14 k66 => ?_)
  obtain ⟨x, hx⟩ : ∃ x, pHe (sP s) = x := ⟨_, rfl⟩
  have G := S.go hg
  have w := G.2.1
  have hnx := nx_le w
  simp only [vcX8_findLine_0, R.fs, true_and]
  refine k_here R S c ⟨R.oR 53 0 rfl rfl (vpd rfl), fun h3 e3 => ?_⟩
  subst e3
  have R3 := R.st (j := 53) 0 (nI (pHe (sP s))) rfl
  rw [hx] at hP hq R3 ⊢
  have bd : ∀ k, (∀ i, i < k → gsO g x i = true) → Ps g (fol g x k) = true := fun k hk => fol_Ps w hP k (fun i hi => gsO_step (hk i hi))
  have step : ∀ r k, r + k = 60 → (∀ i, i < k → gsO g x i = true) → lnN g x r k = lnc g x → ∀ h' A', Rf E h0 h' M A' f → FS A A' → (∀ i, i ≤ k → A' 53 i = nI (fol g x i)) → K14 M (nI k) 1 h' := by
    intro r
    induction r with
    | zero =>
      intro k e hk hl h' A' R' F' Z'
      refine k14 _ _ _ _ ⟨fun q => absurd q (by decide), fun _ => ⟨fun _ => ?_, fun q => absurd (nI_le (a := 60) (b := k) (by omega) (by omega)) q⟩⟩
      rw [lnN] at hl
      rw [hl]
      rw [hl] at Z'
      exact hq h' A' R' F' Z'
    | succ r ih =>
      intro k e hk hl h' A' R' F' Z'
      refine k14 _ _ _ _ ⟨fun q => absurd q (by decide), fun _ => ⟨fun q => absurd q (nI_ge (a := k) (b := 60) (by omega) (by omega)), fun _ => ?_⟩⟩
      have hPk := bd k hk
      obtain ⟨hxk, -⟩ := Ps_un w hPk
      have gk : gA h' (M + 53) (nI k) = nI (fol g x k) := by rw [R'.gR 53 _ rfl, n_cl]; exact Z' k (Nat.le_refl _)
      simp only [R'.fs, true_and, R'.oR 53 _ rfl rfl (vpn (n := 61) (show k < 61 by omega)), gk]
      have G' : RG A' f g := G.of (fun j o => F' j (by omega))
      refine k_bestOf R' G' hPk (fun h2 A2 R2 F2 => ?_)
      have FS2 : FS A A2 := F'.tr (F2.fs (by omega))
      have Z2 : ∀ i, i ≤ k → A2 53 i = nI (fol g x i) := fun i hi => by
        rw [F2.2.2 53 i (by omega) ⟨by omega, by omega, by omega, by omega, by omega⟩]; exact Z' i hi
      have hlen := mvs_len w (fol g x k)
      have hb : ∀ b, bst g (fol g x k) = some b → b < (mvs g (fol g x k)).length := fun b e => bsN_lt _ _ _ _ e
      rw [mI_lt (fun q e => by have := hb q e; omega)]
      -- the line ends
      have stop : gsO g x k = false → ∀ h' A', Rf E h0 h' M A' f → FS A A' → (∀ i, i ≤ k → A' 53 i = nI (fol g x i)) → K14 M (nI k) 0 h' := fun q h' A' R' F' Z' => by
        refine k14 _ _ _ _ ⟨fun _ => ?_, fun q => absurd rfl q⟩
        rw [lnN, if_neg (by rw [q]; decide)] at hl
        rw [hl]
        rw [hl] at Z'
        exact hq h' A' R' F' Z'
      -- looking whether the next one has been there
      have look : ∀ (b : Bool) (y : Nat), y < nx g → (b = true → y = fol g x (k + 1)) → gsO g x k = (b && !(List.range (k + 1)).any (fun i => fol g x i == y)) → K66 M (nI k) (bI b) (nI y) 0 h2 := fun b y hy hby hgs => by
        suffices H : K66 M (nI k) (bI (b && !(List.range 0).any (fun i => fol g x i == y))) (nI y) (nI 0) h2 by
          rw [show (b && !(List.range 0).any (fun i => fol g x i == y)) = b by simp] at H
          exact H
        refine lp_up (K := fun m => K66 M (nI k) (bI (b && !(List.range m).any (fun i => fol g x i == y))) (nI y) (nI m) h2) (k + 1) (fun m hm ihm => ?_) ?_ 0 (Nat.zero_le _)
        · refine k66 _ _ _ _ _ _ ?_
          have hm1 : fol g x m < nx g := (Ps_un w (bd m (fun i hi => hk i (by omega)))).1
          have gm : gA h2 (M + 53) (nI m) = nI (fol g x m) := by rw [R2.gR 53 _ rfl, n_cl]; exact Z2 m (by omega)
          simp only [vcX8_findLine_66, R2.fs, true_and, gm, R2.oR 53 _ rfl rfl (vpn (n := 61) (show m < 61 by omega)), nI_ltI (show k < 2 ^ 31 by omega) (show m < 2 ^ 31 by omega), nI_eq (show fol g x m < 2 ^ 31 by omega) (show y < 2 ^ 31 by omega)]
          rw [← nI_1, List.range_succ, List.any_append, List.any_cons, List.any_nil, Bool.or_false, Bool.not_or, ← Bool.and_assoc, ← bI_and] at ihm
          refine ⟨fun q => absurd q (by omega), fun _ => ⟨fun q => ?_, fun q => ?_⟩⟩
          · rw [show (fol g x m == y) = true by simpa using q] at ihm; exact ihm
          · rw [show (fol g x m == y) = false by simpa using q] at ihm; exact ihm
        · refine k66 _ _ _ _ _ _ ?_
          rw [← hgs]
          refine ⟨fun _ => bI_c (fun q => ?_) (fun q => ?_), fun q => absurd (nI_lt (a := k) (b := k + 1) (by omega) (by omega)) q⟩
          · rw [q]
            exact stop q h2 A2 R2 FS2 Z2
          · have hb1 : b = true := by rw [hgs] at q; simp only [Bool.and_eq_true] at q; exact q.1
            rw [q]
            simp only [R2.fs, true_and, nI_1, R2.oR 53 _ rfl rfl (vpn (n := 61) (show k + 1 < 61 by omega))]
            intro h4 e4
            subst e4
            have R4 := R2.st (j := 53) (nI (k + 1)) (nI y) rfl
            rw [n_cl (n := k + 1)] at R4
            rw [lnN, if_pos q] at hl
            refine ih (k + 1) (by omega) (fun i hi => ?_) hl _ _ R4 (fun j o => ?_) (fun i hi => ?_)
            · by_cases ei : i = k
              · rw [ei]; exact q
              · exact hk i (by omega)
            · rw [← FS2 j o]
              funext i
              exact up2o (by omega)
            · by_cases ei : i = k + 1
              · subst ei; rw [up2s, hby hb1]
              · exact (up2o (by omega)).trans (Z2 i (by omega))
      refine ⟨fun q => ?_, fun q => ?_⟩
      · refine ⟨fun _ => ?_, fun q2 => absurd rfl q2⟩
        refine look false 0 (by omega) (fun q2 => Bool.noConfusion q2) ?_
        unfold gsO; rw [q]; rfl
      · obtain ⟨b, eb⟩ : ∃ b, bst g (fol g x k) = some b := by
          cases h' : bst g (fol g x k) with
          | none => exact absurd h' q
          | some b => exact ⟨b, rfl⟩
        have hbl := hb b eb
        have hgt : (mvs g (fol g x k))[b]? = some (mvs g (fol g x k))[b] := List.getElem?_eq_getElem hbl
        have at' := F2.1.at R2 (by omega) (by omega) hgt
        have hyo : yO g (fol g x k) b = (mvs g (fol g x k))[b].2.2.2 := by unfold yO; rw [hgt]
        have r0 := R2.row0
        rw [eb]
        refine ⟨fun q2 => absurd q2 (by decide), fun _ => ?_⟩
        simp only [mI, R2.fs, true_and, r0, at']
        rw [← hyo]
        have hfol : fol g x (k + 1) = yO g (fol g x k) b := by rw [fol, eb]
        refine look true _ (Ps_un w (yO_Ps w hPk hbl)).1 (fun _ => hfol.symm) ?_
        unfold gsO; rw [eb, hfol]; rfl
  exact step 60 0 rfl (fun i hi => absurd hi (Nat.not_lt_zero _)) rfl _ _ R3 (fun j o => funext fun i => up2o (by omega)) (fun i hi => by
    have : i = 0 := by omega
    subst this
    exact up2s _ _ _ _)
theorem k_line {Q : Int32 → Hp → Prop} {x : Int32} (R : Rf E h0 h M A f) (S : RS A f s)
    (hq : ∀ h' A', Rf E h0 h' M A' f → FS A A' → Q (sLine s x) h') : OkI E YX8_line (d + 9) [.ref M, .int x] h Q := by
  refine rnX8_line ?_
  refine ⟨⟨_, R.obj⟩, k_isPlaying R S (bI_c' (fun c => ?_) (fun c => ?_))⟩
  · have := hq h A R (FS.rfl A)
    rw [sLine] at this
    simp only [decide_eq_false_iff_not, Decidable.not_not] at c
    cases hg : sG s with
    | none => rw [hg] at this; exact this
    | some g => rw [hg] at this; simp only [c, if_true] at this; exact this
  · have c := of_decide_eq_true c
    obtain ⟨g, m, e1, e2, e3, e4, e5, e6⟩ := S.pl c
    rw [sLine, e1] at hq
    simp only [c, if_false] at hq
    refine ⟨⟨_, R.obj⟩, k_findLine R S e1 c e6 (fun h2 A2 R2 F2 Z2 => ?_)⟩
    have hq := hq h2 A2 R2 F2
    obtain ⟨y, hy⟩ : ∃ y, pHe (sP s) = y := ⟨_, rfl⟩
    rw [hy] at hq Z2 ⊢
    have hle : lnc g y ≤ 60 := by
      have := (lnN_le (g := g) (x := y) 60 0).2
      unfold lnc; omega
    unfold liA at hq
    refine ⟨fun q => ?_, fun q => ?_⟩
    · rw [if_neg q] at hq
      refine k_isBetween (bI_c (fun q2 => ?_) (fun q2 => ?_))
      · rw [if_neg (by rw [show btw 1 (nI (lnc g y)) x = false from q2]; decide)] at hq
        exact hq
      · rw [if_pos (show btw 1 (nI (lnc g y)) x = true from q2)] at hq
        obtain ⟨j, hj, ej⟩ : ∃ j, j < lnc g y + 1 ∧ x = nI j := btw_in (b := lnc g y + 1) (by omega) (by
          have q3 := of_decide_eq_true q2
          unfold btw
          rw [nI_pred]
          exact decide_eq_true ⟨Int32.le_trans (by decide) q3.1, q3.2⟩)
        subst ej
        simp only [R2.fs, true_and, R2.oR 53 _ rfl rfl (vpn (n := 61) (show j < 61 by omega))]
        rw [R2.gR 53 _ rfl, n_cl, Z2 j (by omega)]
        rw [n_cl] at hq
        exact hq
    · rw [if_pos q] at hq; exact hq
end
