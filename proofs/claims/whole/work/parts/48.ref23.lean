def byB (x : Int32) : Bool := btw 0 127 x
def fdX (a b c d e : Int32) (i : Nat) : Int32 := if i = 0 then a else if i = 1 then b else if i = 2 then c else if i = 3 then d else e
def sFeed (s : Sg) (n a b c d e : Int32) : Sg × Int32 :=
  if btw 1 5 n && byB a && byB b && byB c && byB d && byB e then
    (if nI (sL s) + n ≤ 40 then ((sL s + n.toNatClampNeg, fun i => if i < sL s then sB s i else (fdX a b c d e (i - sL s)).toNatClampNeg, sG s, sP s, sK s), nI (sL s + n.toNatClampNeg)) else (s, -4))
  else (s, -2)
theorem byB_in {x : Int32} (h : byB x = true) : x = nI x.toNatClampNeg ∧ x.toNatClampNeg < 128 := by
  obtain ⟨j, h1, h2⟩ := btw_in (v := x) (b := 128) (by omega) h
  rw [h2, n_cl]; exact ⟨rfl, h1⟩
section
variable {E : Wd} {h0 h : Hp} {M : Nat} {A : Nat → Nat → Int32} {f : Nat → Int32} {g : Gm} {d : Nat} {s : Sg}
theorem k_image {Q : Int32 → Hp → Prop} (R : Rf E h0 h M A f) (S : RS A f s)
    (hq : ∀ h' A' f', Rf E h0 h' M A' f' → RS A' f' (sIm s).1 → Q (sIm s).2 h') : OkI E YX8_image (d + 1) [.ref M] h Q := by
  refine rnX8_image (fun K34 k34 => ?_)
  have h7 : f 7 = bI (sG s).isSome := by
    cases hg : sG s with
    | none => exact S.f7.1 hg
    | some g => exact S.f7.2 g hg
  simp only [vcX8_image_0, R.fs, true_and]
  refine ⟨Or.inr rfl, fun h1 e1 => ?_⟩
  subst e1
  have R1 := R.put (k := 30) (x := 1) rfl
  simp only [R1.fs, true_and, show upd f 30 1 7 = f 7 from rfl, h7]
  refine ⟨bI_m _, fun h2 e2 => ?_⟩
  subst e2
  have R2 := R1.put (k := 31) (x := bI (sG s).isSome) rfl
  simp only [R2.fs, true_and]
  refine k_copy (j := 2) (t := 4) R2 (by omega) (by omega) (by omega) (fun h3 A3 R3 F3 C3 => ?_)
  simp only [R3.fs, true_and, show upd (upd f 30 1) 31 (bI (sG s).isSome) 23 = f 23 from rfl]
  intro h4 e4
  subst e4
  have R4 := R3.put (k := 24) (x := f 23) rfl
  obtain ⟨f4, ef4⟩ : ∃ f4, upd (upd (upd f 30 1) 31 (bI (sG s).isSome)) 24 (f 23) = f4 := ⟨_, rfl⟩
  have q30 : f4 30 = 1 := by rw [← ef4]; rfl
  have q31 : f4 31 = bI (sG s).isSome := by rw [← ef4]; rfl
  have q24 : f4 24 = f 23 := by rw [← ef4]; rfl
  have q23 : f4 23 = f 23 := by rw [← ef4]; rfl
  have q7 : f4 7 = f 7 := by rw [← ef4]; rfl
  have q20 : f4 20 = f 20 := by rw [← ef4]; rfl
  have q1 : f4 1 = f 1 := by rw [← ef4]; rfl
  rw [ef4] at R4
  refine lp_up (K := fun k => ∀ h' A', Rf E h0 h' M A' f4 → (∀ j i, j ≠ 50 → j ≠ 52 → A' j i = A3 j i) → (∀ i, i < k → A' 50 i = A3 49 i ∧ A' 52 i = A3 51 i) → (∀ i, ¬ i < k → A' 52 i = A3 52 i) → K34 M (nI k) h') 41 (fun k hk ih h' A' R' F' Z' W' => ?_) (fun h' A' R' F' Z' W' => ?_) 0 (Nat.zero_le _) _ A3 R4 (fun _ _ _ _ => rfl) (fun i hi => absurd hi (Nat.not_lt_zero _)) (fun _ _ => rfl)
  · refine k34 _ _ _ ?_
    have vk : vp_in (nI k) 41 := vpn hk
    have hA51 : A' 51 k = A 51 k := by rw [F' 51 k (by omega) (by omega), F3 51 k (by omega)]
    simp only [vcX8_image_34, R'.fs, true_and, show (40 : Int32) = nI 40 from rfl, nI_ltI (show 40 < 2 ^ 31 by omega) (show k < 2 ^ 31 by omega), R'.oR 49 _ rfl rfl vk, R'.oR 50 _ rfl rfl vk, R'.gR 49 (nI k) rfl, n_cl (n := k)]
    refine ⟨fun c => absurd c (by omega), fun _ h5 e5 => ?_⟩
    subst e5
    have R5 := R'.st (j := 50) (nI k) (A' 49 k) rfl
    rw [n_cl (n := k)] at R5
    have g5 : gA (sA h' (M + 50) (nI k) (A' 49 k)) (M + 51) (nI k) = A 51 k := by
      rw [R5.gR 51 _ rfl, n_cl]; exact (up2o (by omega)).trans hA51
    simp only [R5.fs, true_and, R5.oZ 51 _ rfl rfl vk, R5.oZ 52 _ rfl rfl vk, g5]
    refine ⟨S.2.2.1.2.2.1.2 k hk, fun h6 e6 => ?_⟩
    subst e6
    have R6 := R5.st (j := 52) (nI k) (A 51 k) rfl
    rw [n_cl (n := k)] at R6
    rw [nI_1]
    refine ih _ _ R6 (fun j i o1 o2 => (up2o (by omega)).trans ((up2o (by omega)).trans (F' j i o1 o2))) (fun i hi => ?_) (fun i hi => ?_)
    · by_cases c : i = k
      · subst c
        refine ⟨(up2o (by omega)).trans ((up2s _ _ _ _).trans (F' 49 i (by omega) (by omega))), (up2s _ _ _ _).trans ?_⟩
        rw [F3 51 i (by omega)]
      · have := Z' i (by omega)
        exact ⟨(up2o (by omega)).trans ((up2o (by omega)).trans this.1), (up2o (by omega)).trans ((up2o (by omega)).trans this.2)⟩
    · exact (up2o (by omega)).trans ((up2o (by omega)).trans (W' i (by omega)))
  · refine k34 _ _ _ ?_
    simp only [vcX8_image_34, R'.fs, true_and, q7, h7]
    refine ⟨fun _ => ?_, fun c => absurd (nI_lt (a := 40) (b := 41) (by omega) (by omega)) c⟩
    have rows : ∀ j, j ≠ 4 → j ≠ 50 → j ≠ 52 → A' j = A j := fun j o1 o2 o3 => funext fun i => by rw [F' j i o2 o3, F3 j i o1]
    have fin : RS A' f4 (sIm s).1 := by
      refine ⟨?_, ?_, ?_, q30, q31, fun g e => ?_, ?_⟩
      · have := S.1
        show RTp A' f4 (sL s) (sB s)
        unfold RTp at this ⊢
        rw [q1, rows 1 (by omega) (by omega) (by omega)]; exact this
      · show RGo A' f4 (sG s)
        have := S.2.1
        cases hg : sG s with
        | none => rw [hg] at this; exact q7.trans this
        | some g =>
          rw [hg] at this
          have G2 : RG A' f g := this.2.of (fun j o => rows j (by omega) (by omega) (by omega))
          exact ⟨q7.trans this.1, G2.1, G2.2.1, G2.2.2.1, q20.trans G2.2.2.2.1, G2.2.2.2.2⟩
      · show RPl A' 49 51 (f4 23) (sG s) (sP s)
        rw [q23]
        exact S.2.2.1.of (rows 49 (by omega) (by omega) (by omega)) (rows 51 (by omega) (by omega) (by omega))
      · have e : sG s = some g := e
        have G2 := S.go e
        refine ⟨G2.1.cp (fun i hi => ?_), G2.2.1, G2.2.2.1⟩
        rw [F' 4 i (by omega) (by omega), C3 i hi]
      · show RPl A' 50 52 (f4 24) (sG s) (sP s)
        obtain ⟨p1, p2, p3, p4⟩ := S.2.2.1
        have z1 : ∀ i, i < 41 → A' 50 i = A 49 i ∧ A' 52 i = A 51 i := fun i hi => by
          obtain ⟨z1, z2⟩ := Z' i hi
          rw [z1, z2, F3 49 i (by omega), F3 51 i (by omega)]; exact ⟨rfl, rfl⟩
        refine ⟨p1, by rw [q24]; exact p2, ⟨p3.1, fun k hk => by rw [(z1 k hk).2]; exact p3.2 k hk⟩, fun k hk => ?_⟩
        rw [(z1 k (by omega)).1, (z1 k (by omega)).2]; exact p4 k hk
    have := hq h' A' f4 R' fin
    refine bI_c (fun c => ?_) (fun c => ?_)
    · rw [sIm, c] at this; exact this
    · rw [sIm, c] at this; exact this
theorem k_undo {Q : Int32 → Hp → Prop} (R : Rf E h0 h M A f) (S : RS A f s)
    (hq : ∀ h' A' f', Rf E h0 h' M A' f' → RS A' f' (sUn s).1 → Q (sUn s).2 h') : OkI E YX8_undo (d + 9) [.ref M] h Q := by
  refine rnX8_undo (fun K50 k50 => ?_)
  cases hk : sK s with
  | none =>
    have h4 := S.2.2.2
    rw [hk] at h4
    have h4 : f 30 = 0 := h4
    have := hq h A f R
    simp only [sUn, hk] at this
    simp only [vcX8_undo_0, R.fs, true_and, h4]
    exact ⟨fun c => absurd trivial c, fun _ => this S⟩
  | some k =>
    have h4 := S.2.2.2
    rw [hk] at h4
    obtain ⟨p30, p31, pg, pp⟩ := h4
    simp only [sUn, hk] at hq
    simp only [vcX8_undo_0, R.fs, true_and, p30, p31]
    refine ⟨fun _ => ⟨bI_m _, fun h1 e1 => ?_⟩, fun c => absurd c (by decide)⟩
    subst e1
    have R1 := R.put (k := 7) (x := bI k.1.isSome) rfl
    simp only [R1.fs, true_and]
    refine k_copy (j := 4) (t := 2) R1 (by omega) (by omega) (by omega) (fun h2 A2 R2 F2 C2 => ?_)
    simp only [R2.fs, true_and, show upd f 7 (bI k.1.isSome) 7 = bI k.1.isSome from rfl]
    -- what is left to copy
    have last : ∀ h2 A2 f2, Rf E h0 h2 M A2 f2 → RGo A2 f2 k.1 → (∀ j, j = 1 ∨ j = 4 ∨ 49 ≤ j ∧ j < 53 → A2 j = A j) → f2 1 = f 1 → f2 24 = f 24 → f2 30 = 1 → f2 31 = bI k.1.isSome → f2 7 = bI k.1.isSome → vcX8_undo_40 E (d + 8) K50 M h2 Q := fun h2 A2 f2 R2 G2 F2 q1 q24 q30 q31 q7 => by
      simp only [vcX8_undo_40, R2.fs, true_and, q24]
      intro h3 e3
      subst e3
      have R3 := R2.put (k := 23) (x := f 24) rfl
      obtain ⟨f3, ef3⟩ : ∃ f3, upd f2 23 (f 24) = f3 := ⟨_, rfl⟩
      have r23 : f3 23 = f 24 := by rw [← ef3]; rfl
      have r1 : f3 1 = f 1 := by rw [← ef3]; exact q1
      have r24 : f3 24 = f 24 := by rw [← ef3]; exact q24
      have r30 : f3 30 = 1 := by rw [← ef3]; exact q30
      have r31 : f3 31 = bI k.1.isSome := by rw [← ef3]; exact q31
      have r7 : f3 7 = bI k.1.isSome := by rw [← ef3]; exact q7
      have G3 : RGo A2 f3 k.1 := by
        rw [← ef3]
        exact G2.tr (FS.rfl A2) rfl rfl
      rw [ef3] at R3
      refine lp_up (K := fun i => ∀ h' A', Rf E h0 h' M A' f3 → (∀ j i', j ≠ 49 → j ≠ 51 → A' j i' = A2 j i') → (∀ i', i' < i → A' 49 i' = A 50 i' ∧ A' 51 i' = A 52 i') → K50 M (nI i) h') 41 (fun i hi ih h' A' R' F' Z' => ?_) (fun h' A' R' F' Z' => ?_) 0 (Nat.zero_le _) _ A2 R3 (fun _ _ _ _ => rfl) (fun i hi => absurd hi (Nat.not_lt_zero _))
      · refine k50 _ _ _ ?_
        have vk : vp_in (nI i) 41 := vpn hi
        have hA50 : A' 50 i = A 50 i := by rw [F' 50 i (by omega) (by omega), F2 50 (by omega)]
        have hA52 : A' 52 i = A 52 i := by rw [F' 52 i (by omega) (by omega), F2 52 (by omega)]
        simp only [vcX8_undo_50, R'.fs, true_and, show (40 : Int32) = nI 40 from rfl, nI_ltI (show 40 < 2 ^ 31 by omega) (show i < 2 ^ 31 by omega), R'.oR 49 _ rfl rfl vk, R'.oR 50 _ rfl rfl vk, R'.gR 50 (nI i) rfl, n_cl (n := i), hA50]
        refine ⟨fun c => absurd c (by omega), fun _ h5 e5 => ?_⟩
        subst e5
        have R5 := R'.st (j := 49) (nI i) (A 50 i) rfl
        rw [n_cl (n := i)] at R5
        have g5 : gA (sA h' (M + 49) (nI i) (A 50 i)) (M + 52) (nI i) = A 52 i := by
          rw [R5.gR 52 _ rfl, n_cl]; exact (up2o (by omega)).trans hA52
        simp only [R5.fs, true_and, R5.oZ 51 _ rfl rfl vk, R5.oZ 52 _ rfl rfl vk, g5]
        refine ⟨pp.2.2.1.2 i hi, fun h6 e6 => ?_⟩
        subst e6
        have R6 := R5.st (j := 51) (nI i) (A 52 i) rfl
        rw [n_cl (n := i)] at R6
        rw [nI_1]
        refine ih _ _ R6 (fun j i' o1 o2 => (up2o (by omega)).trans ((up2o (by omega)).trans (F' j i' o1 o2))) (fun i' hi' => ?_)
        by_cases c : i' = i
        · subst c
          exact ⟨(up2o (by omega)).trans (up2s _ _ _ _), up2s _ _ _ _⟩
        · have := Z' i' (by omega)
          exact ⟨(up2o (by omega)).trans ((up2o (by omega)).trans this.1), (up2o (by omega)).trans ((up2o (by omega)).trans this.2)⟩
      · refine k50 _ _ _ ?_
        simp only [vcX8_undo_50, R'.fs, true_and, r7]
        refine ⟨fun _ => ?_, fun c => absurd (nI_lt (a := 40) (b := 41) (by omega) (by omega)) c⟩
        have rows : ∀ j, j ≠ 49 → j ≠ 51 → A' j = A2 j := fun j o1 o2 => funext fun i => F' j i o1 o2
        have fin : RS A' f3 (sL s, sB s, k.1, k.2, some k) := by
          refine ⟨?_, ?_, ?_, r30, r31, fun g e => ?_, ?_⟩
          · have := S.1
            show RTp A' f3 (sL s) (sB s)
            unfold RTp at this ⊢
            rw [r1, rows 1 (by omega) (by omega), F2 1 (by omega)]; exact this
          · show RGo A' f3 k.1
            cases hg : k.1 with
            | none => rw [hg] at G3; exact G3
            | some g =>
              rw [hg] at G3
              exact ⟨G3.1, G3.2.of (fun j o => rows j (by omega) (by omega))⟩
          · show RPl A' 49 51 (f3 23) k.1 k.2
            obtain ⟨p1, p2, p3, p4⟩ := pp
            refine ⟨p1, by rw [r23]; exact p2, ⟨p3.1, fun i hi => by rw [(Z' i hi).2]; exact p3.2 i hi⟩, fun i hi => ?_⟩
            rw [(Z' i (by omega)).1, (Z' i (by omega)).2]; exact p4 i hi
          · rw [rows 4 (by omega) (by omega), F2 4 (by omega)]; exact pg g e
          · rw [r24]
            exact pp.of (by rw [rows 50 (by omega) (by omega), F2 50 (by omega)]) (by rw [rows 52 (by omega) (by omega), F2 52 (by omega)])
        have := hq h' A' f3 R' fin
        refine bI_c (fun c => ?_) (fun c => ?_)
        · rw [c] at this; exact this
        · rw [c] at this; exact this
    refine bI_c (fun c => ?_) (fun c => ?_)
    · have e : k.1 = none := by
        cases h' : k.1 with
        | none => rfl
        | some g => rw [h'] at c; cases c
      refine last h2 A2 _ R2 (by rw [e]; rfl) (fun j o => funext fun i => F2 j i (by omega)) rfl rfl p30 p31 rfl
    · obtain ⟨g, e⟩ : ∃ g, k.1 = some g := by
        cases h' : k.1 with
        | none => rw [h'] at c; cases c
        | some g => exact ⟨g, rfl⟩
      obtain ⟨pg1, w, v⟩ := pg g e
      have hA2 : rA (A2 2) g := pg1.cp C2
      refine k_build R2 hA2 w v (fun h3 A3 R3 T3 C3 F3 => last h3 A3 _ R3 (by rw [e]; exact ⟨rfl, F3.g2 hA2, w, v, rfl, T3, C3⟩) (fun j o => funext fun i => ?_) rfl rfl p30 p31 rfl)
      rw [F3 j i (by omega) ⟨by omega, by omega, by omega, by omega, by omega⟩ (by omega), F2 j i (by omega)]
end
